set_option maxRecDepth 20000 in
theorem ggX10_shares_X10_ofClass : GoodIn wsX10_shares wsX10_ofClass := goodIn_r _ [12, 1, 13, 14, 15, 16, 17, 18, 19, 20, 21, 22, 23, 24, 25, 26, 27] (by decide +kernel) (by decide +kernel)
set_option maxRecDepth 20000 in
theorem gX10_shares_X10_ofClass : GoodIn wsX10_shares (wsV RX10 53 RX10 yX10_ofClass wsX10_ofClass) := goodIn_app (goodIn_of _ (by decide +kernel)) ggX10_shares_X10_ofClass
theorem dX10_shares_0 : decode cX10_shares 0 = .ok (.lconst 0, 1) := by decide +kernel
theorem dX10_shares_1 : decode cX10_shares 1 = .ok (.lstore 5, 2) := by decide +kernel
theorem dX10_shares_3 : decode cX10_shares 3 = .ok (.iconst 0, 1) := by decide +kernel
theorem dX10_shares_4 : decode cX10_shares 4 = .ok (.istore 7, 2) := by decide +kernel
theorem dX10_shares_6 : decode cX10_shares 6 = .ok (.iload 7, 2) := by decide +kernel
theorem dX10_shares_8 : decode cX10_shares 8 = .ok (.aload_n 0, 1) := by decide +kernel
theorem dX10_shares_9 : decode cX10_shares 9 = .ok (.getfield 7, 3) := by decide +kernel
theorem dX10_shares_12 : decode cX10_shares 12 = .ok (.iconst 0, 1) := by decide +kernel
theorem dX10_shares_13 : decode cX10_shares 13 = .ok (.iaload, 1) := by decide +kernel
theorem dX10_shares_14 : decode cX10_shares 14 = .ok (.if_icmp .ge 34, 3) := by decide +kernel
theorem dX10_shares_17 : decode cX10_shares 17 = .ok (.lload 5, 2) := by decide +kernel
theorem dX10_shares_19 : decode cX10_shares 19 = .ok (.iload_n 3, 1) := by decide +kernel
theorem dX10_shares_20 : decode cX10_shares 20 = .ok (.iload 7, 2) := by decide +kernel
theorem dX10_shares_22 : decode cX10_shares 22 = .ok (.invokestatic 158, 3) := by decide +kernel
theorem dX10_shares_25 : decode cX10_shares 25 = .ok (.ifCond .eq 13, 3) := by decide +kernel
theorem dX10_shares_28 : decode cX10_shares 28 = .ok (.aload_n 0, 1) := by decide +kernel
theorem dX10_shares_29 : decode cX10_shares 29 = .ok (.getfield 32, 3) := by decide +kernel
theorem dX10_shares_32 : decode cX10_shares 32 = .ok (.iload 7, 2) := by decide +kernel
theorem dX10_shares_34 : decode cX10_shares 34 = .ok (.laload, 1) := by decide +kernel
theorem dX10_shares_35 : decode cX10_shares 35 = .ok (.goto 4, 3) := by decide +kernel
theorem dX10_shares_38 : decode cX10_shares 38 = .ok (.lconst 0, 1) := by decide +kernel
theorem dX10_shares_39 : decode cX10_shares 39 = .ok (.ladd, 1) := by decide +kernel
theorem dX10_shares_40 : decode cX10_shares 40 = .ok (.lstore 5, 2) := by decide +kernel
theorem dX10_shares_42 : decode cX10_shares 42 = .ok (.iinc 7 1, 3) := by decide +kernel
theorem dX10_shares_45 : decode cX10_shares 45 = .ok (.goto (-39), 3) := by decide +kernel
theorem dX10_shares_48 : decode cX10_shares 48 = .ok (.iconst (-1), 1) := by decide +kernel
theorem dX10_shares_49 : decode cX10_shares 49 = .ok (.istore 7, 2) := by decide +kernel
theorem dX10_shares_51 : decode cX10_shares 51 = .ok (.aload_n 0, 1) := by decide +kernel
theorem dX10_shares_52 : decode cX10_shares 52 = .ok (.getfield 7, 3) := by decide +kernel
theorem dX10_shares_55 : decode cX10_shares 55 = .ok (.iconst 0, 1) := by decide +kernel
theorem dX10_shares_56 : decode cX10_shares 56 = .ok (.iaload, 1) := by decide +kernel
theorem dX10_shares_57 : decode cX10_shares 57 = .ok (.iconst 1, 1) := by decide +kernel
theorem dX10_shares_58 : decode cX10_shares 58 = .ok (.isub, 1) := by decide +kernel
theorem dX10_shares_59 : decode cX10_shares 59 = .ok (.istore 8, 2) := by decide +kernel
theorem dX10_shares_61 : decode cX10_shares 61 = .ok (.iload 8, 2) := by decide +kernel
theorem dX10_shares_63 : decode cX10_shares 63 = .ok (.ifCond .lt 113, 3) := by decide +kernel
theorem dX10_shares_66 : decode cX10_shares 66 = .ok (.aload_n 0, 1) := by decide +kernel
theorem dX10_shares_67 : decode cX10_shares 67 = .ok (.getfield 26, 3) := by decide +kernel
theorem dX10_shares_70 : decode cX10_shares 70 = .ok (.iload 8, 2) := by decide +kernel
theorem dX10_shares_72 : decode cX10_shares 72 = .ok (.iload_n 3, 1) := by decide +kernel
theorem dX10_shares_73 : decode cX10_shares 73 = .ok (.iload 8, 2) := by decide +kernel
theorem dX10_shares_75 : decode cX10_shares 75 = .ok (.invokestatic 158, 3) := by decide +kernel
theorem dX10_shares_78 : decode cX10_shares 78 = .ok (.ifCond .eq 25, 3) := by decide +kernel
theorem dX10_shares_81 : decode cX10_shares 81 = .ok (.lload 5, 2) := by decide +kernel
theorem dX10_shares_83 : decode cX10_shares 83 = .ok (.lconst 0, 1) := by decide +kernel
theorem dX10_shares_84 : decode cX10_shares 84 = .ok (.lcmp, 1) := by decide +kernel
theorem dX10_shares_85 : decode cX10_shares 85 = .ok (.ifCond .le 18, 3) := by decide +kernel
theorem dX10_shares_88 : decode cX10_shares 88 = .ok (.lload_n 1, 1) := by decide +kernel
theorem dX10_shares_89 : decode cX10_shares 89 = .ok (.aload_n 0, 1) := by decide +kernel
theorem dX10_shares_90 : decode cX10_shares 90 = .ok (.getfield 32, 3) := by decide +kernel
theorem dX10_shares_93 : decode cX10_shares 93 = .ok (.iload 8, 2) := by decide +kernel
theorem dX10_shares_95 : decode cX10_shares 95 = .ok (.laload, 1) := by decide +kernel
theorem dX10_shares_96 : decode cX10_shares 96 = .ok (.lmul, 1) := by decide +kernel
theorem dX10_shares_97 : decode cX10_shares 97 = .ok (.lload 5, 2) := by decide +kernel
theorem dX10_shares_99 : decode cX10_shares 99 = .ok (.ldiv, 1) := by decide +kernel
theorem dX10_shares_100 : decode cX10_shares 100 = .ok (.goto 4, 3) := by decide +kernel
theorem dX10_shares_103 : decode cX10_shares 103 = .ok (.lconst 0, 1) := by decide +kernel
theorem dX10_shares_104 : decode cX10_shares 104 = .ok (.lastore, 1) := by decide +kernel
theorem dX10_shares_105 : decode cX10_shares 105 = .ok (.iload 8, 2) := by decide +kernel
theorem dX10_shares_107 : decode cX10_shares 107 = .ok (.ifCond .le 46, 3) := by decide +kernel
theorem dX10_shares_110 : decode cX10_shares 110 = .ok (.aload_n 0, 1) := by decide +kernel
theorem dX10_shares_111 : decode cX10_shares 111 = .ok (.iload 8, 2) := by decide +kernel
theorem dX10_shares_113 : decode cX10_shares 113 = .ok (.iconst 3, 1) := by decide +kernel
theorem dX10_shares_114 : decode cX10_shares 114 = .ok (.invokevirtual 53, 3) := by decide +kernel
theorem dX10_shares_117 : decode cX10_shares 117 = .ok (.iconst 2, 1) := by decide +kernel
theorem dX10_shares_118 : decode cX10_shares 118 = .ok (.if_icmp .ne 35, 3) := by decide +kernel
theorem dX10_shares_121 : decode cX10_shares 121 = .ok (.iload 4, 2) := by decide +kernel
theorem dX10_shares_123 : decode cX10_shares 123 = .ok (.iload 8, 2) := by decide +kernel
theorem dX10_shares_125 : decode cX10_shares 125 = .ok (.invokestatic 158, 3) := by decide +kernel
theorem dX10_shares_128 : decode cX10_shares 128 = .ok (.ifCond .ne 25, 3) := by decide +kernel
theorem dX10_shares_131 : decode cX10_shares 131 = .ok (.aload_n 0, 1) := by decide +kernel
theorem dX10_shares_132 : decode cX10_shares 132 = .ok (.getfield 26, 3) := by decide +kernel
theorem dX10_shares_135 : decode cX10_shares 135 = .ok (.iload 8, 2) := by decide +kernel
theorem dX10_shares_137 : decode cX10_shares 137 = .ok (.laload, 1) := by decide +kernel
theorem dX10_shares_138 : decode cX10_shares 138 = .ok (.aload_n 0, 1) := by decide +kernel
theorem dX10_shares_139 : decode cX10_shares 139 = .ok (.getfield 29, 3) := by decide +kernel
theorem dX10_shares_142 : decode cX10_shares 142 = .ok (.iload 8, 2) := by decide +kernel
theorem dX10_shares_144 : decode cX10_shares 144 = .ok (.laload, 1) := by decide +kernel
theorem dX10_shares_145 : decode cX10_shares 145 = .ok (.lcmp, 1) := by decide +kernel
theorem dX10_shares_146 : decode cX10_shares 146 = .ok (.ifCond .le 7, 3) := by decide +kernel
theorem dX10_shares_149 : decode cX10_shares 149 = .ok (.iconst 1, 1) := by decide +kernel
theorem dX10_shares_150 : decode cX10_shares 150 = .ok (.goto 4, 3) := by decide +kernel
theorem dX10_shares_153 : decode cX10_shares 153 = .ok (.iconst 0, 1) := by decide +kernel
theorem dX10_shares_154 : decode cX10_shares 154 = .ok (.istore 9, 2) := by decide +kernel
theorem dX10_shares_156 : decode cX10_shares 156 = .ok (.iload 9, 2) := by decide +kernel
theorem dX10_shares_158 : decode cX10_shares 158 = .ok (.ifCond .eq 8, 3) := by decide +kernel
theorem dX10_shares_161 : decode cX10_shares 161 = .ok (.iload 8, 2) := by decide +kernel
theorem dX10_shares_163 : decode cX10_shares 163 = .ok (.goto 5, 3) := by decide +kernel
theorem dX10_shares_166 : decode cX10_shares 166 = .ok (.iload 7, 2) := by decide +kernel
theorem dX10_shares_168 : decode cX10_shares 168 = .ok (.istore 7, 2) := by decide +kernel
theorem dX10_shares_170 : decode cX10_shares 170 = .ok (.iinc 8 (-1), 3) := by decide +kernel
theorem dX10_shares_173 : decode cX10_shares 173 = .ok (.goto (-112), 3) := by decide +kernel
theorem dX10_shares_176 : decode cX10_shares 176 = .ok (.iload 7, 2) := by decide +kernel
theorem dX10_shares_178 : decode cX10_shares 178 = .ok (.ireturn, 1) := by decide +kernel
set_option maxRecDepth 20000 in
theorem ggX10_paysOut_X10_paysClaims : GoodIn wsX10_paysOut wsX10_paysClaims := goodIn_r _ [9, 2, 3, 1, 10, 11, 12, 13, 8, 14, 15, 16, 17, 18, 19, 20, 21, 27, 28, 29, 30, 31, 32, 33, 34, 35, 36, 37, 38, 39, 40, 41] (by decide +kernel) (by decide +kernel)
set_option maxRecDepth 20000 in
theorem gX10_paysOut_X10_paysClaims : GoodIn wsX10_paysOut (wsV RX10 167 RX10 yX10_paysClaims wsX10_paysClaims) := goodIn_app (goodIn_of _ (by decide +kernel)) ggX10_paysOut_X10_paysClaims
set_option maxRecDepth 20000 in
theorem ggX10_paysOut_X10_has : GoodIn wsX10_paysOut wsX10_has := goodIn_r _ [17] (by decide +kernel) (by decide +kernel)
set_option maxRecDepth 20000 in
theorem gX10_paysOut_X10_has : GoodIn wsX10_paysOut (va_wsS RX10 158 yX10_has wsX10_has) := goodIn_app (goodIn_of _ (by decide +kernel)) ggX10_paysOut_X10_has
set_option maxRecDepth 20000 in
theorem ggX10_paysOut_X10_ofClass : GoodIn wsX10_paysOut wsX10_ofClass := goodIn_r _ [21, 2, 27, 28, 29, 30, 31, 32, 33, 34, 35, 36, 37, 38, 39, 40, 41] (by decide +kernel) (by decide +kernel)
set_option maxRecDepth 20000 in
theorem gX10_paysOut_X10_ofClass : GoodIn wsX10_paysOut (wsV RX10 53 RX10 yX10_ofClass wsX10_ofClass) := goodIn_app (goodIn_of _ (by decide +kernel)) ggX10_paysOut_X10_ofClass
set_option maxRecDepth 20000 in
theorem ggX10_paysOut_X10_shares : GoodIn wsX10_paysOut wsX10_shares := goodIn_r _ [25, 2, 26, 4, 3, 15, 16, 8, 17, 18, 19, 20, 21, 27, 28, 29, 30, 31, 32, 33, 34, 35, 36, 37, 38, 39, 40, 41] (by decide +kernel) (by decide +kernel)
set_option maxRecDepth 20000 in
theorem gX10_paysOut_X10_shares : GoodIn wsX10_paysOut (wsV RX10 171 RX10 yX10_shares wsX10_shares) := goodIn_app (goodIn_of _ (by decide +kernel)) ggX10_paysOut_X10_shares
theorem dX10_paysOut_0 : decode cX10_paysOut 0 = .ok (.iconst 0, 1) := by decide +kernel
theorem dX10_paysOut_1 : decode cX10_paysOut 1 = .ok (.istore 4, 2) := by decide +kernel
theorem dX10_paysOut_3 : decode cX10_paysOut 3 = .ok (.iload 4, 2) := by decide +kernel
theorem dX10_paysOut_5 : decode cX10_paysOut 5 = .ok (.iconst 5, 1) := by decide +kernel
theorem dX10_paysOut_6 : decode cX10_paysOut 6 = .ok (.if_icmp .ge 17, 3) := by decide +kernel
theorem dX10_paysOut_9 : decode cX10_paysOut 9 = .ok (.aload_n 0, 1) := by decide +kernel
theorem dX10_paysOut_10 : decode cX10_paysOut 10 = .ok (.getfield 22, 3) := by decide +kernel
theorem dX10_paysOut_13 : decode cX10_paysOut 13 = .ok (.iload 4, 2) := by decide +kernel
theorem dX10_paysOut_15 : decode cX10_paysOut 15 = .ok (.lconst 0, 1) := by decide +kernel
theorem dX10_paysOut_16 : decode cX10_paysOut 16 = .ok (.lastore, 1) := by decide +kernel
theorem dX10_paysOut_17 : decode cX10_paysOut 17 = .ok (.iinc 4 1, 3) := by decide +kernel
theorem dX10_paysOut_20 : decode cX10_paysOut 20 = .ok (.goto (-17), 3) := by decide +kernel
theorem dX10_paysOut_23 : decode cX10_paysOut 23 = .ok (.aload_n 0, 1) := by decide +kernel
theorem dX10_paysOut_24 : decode cX10_paysOut 24 = .ok (.lload_n 1, 1) := by decide +kernel
theorem dX10_paysOut_25 : decode cX10_paysOut 25 = .ok (.iload_n 3, 1) := by decide +kernel
theorem dX10_paysOut_26 : decode cX10_paysOut 26 = .ok (.invokevirtual 167, 3) := by decide +kernel
theorem dX10_paysOut_29 : decode cX10_paysOut 29 = .ok (.lstore 4, 2) := by decide +kernel
theorem dX10_paysOut_31 : decode cX10_paysOut 31 = .ok (.lload 4, 2) := by decide +kernel
theorem dX10_paysOut_33 : decode cX10_paysOut 33 = .ok (.lconst 0, 1) := by decide +kernel
theorem dX10_paysOut_34 : decode cX10_paysOut 34 = .ok (.lcmp, 1) := by decide +kernel
theorem dX10_paysOut_35 : decode cX10_paysOut 35 = .ok (.ifCond .ge 4, 3) := by decide +kernel
theorem dX10_paysOut_38 : decode cX10_paysOut 38 = .ok (.return_, 1) := by decide +kernel
theorem dX10_paysOut_39 : decode cX10_paysOut 39 = .ok (.iconst 0, 1) := by decide +kernel
theorem dX10_paysOut_40 : decode cX10_paysOut 40 = .ok (.istore 6, 2) := by decide +kernel
theorem dX10_paysOut_42 : decode cX10_paysOut 42 = .ok (.iconst 0, 1) := by decide +kernel
theorem dX10_paysOut_43 : decode cX10_paysOut 43 = .ok (.istore 7, 2) := by decide +kernel
theorem dX10_paysOut_45 : decode cX10_paysOut 45 = .ok (.iload 7, 2) := by decide +kernel
theorem dX10_paysOut_47 : decode cX10_paysOut 47 = .ok (.aload_n 0, 1) := by decide +kernel
theorem dX10_paysOut_48 : decode cX10_paysOut 48 = .ok (.getfield 7, 3) := by decide +kernel
theorem dX10_paysOut_51 : decode cX10_paysOut 51 = .ok (.iconst 0, 1) := by decide +kernel
theorem dX10_paysOut_52 : decode cX10_paysOut 52 = .ok (.iaload, 1) := by decide +kernel
theorem dX10_paysOut_53 : decode cX10_paysOut 53 = .ok (.if_icmp .ge 46, 3) := by decide +kernel
theorem dX10_paysOut_56 : decode cX10_paysOut 56 = .ok (.iload 6, 2) := by decide +kernel
theorem dX10_paysOut_58 : decode cX10_paysOut 58 = .ok (.iload 7, 2) := by decide +kernel
theorem dX10_paysOut_60 : decode cX10_paysOut 60 = .ok (.ifCond .eq 22, 3) := by decide +kernel
theorem dX10_paysOut_63 : decode cX10_paysOut 63 = .ok (.iload_n 3, 1) := by decide +kernel
theorem dX10_paysOut_64 : decode cX10_paysOut 64 = .ok (.iload 7, 2) := by decide +kernel
theorem dX10_paysOut_66 : decode cX10_paysOut 66 = .ok (.invokestatic 158, 3) := by decide +kernel
theorem dX10_paysOut_69 : decode cX10_paysOut 69 = .ok (.ifCond .ne 13, 3) := by decide +kernel
theorem dX10_paysOut_72 : decode cX10_paysOut 72 = .ok (.aload_n 0, 1) := by decide +kernel
theorem dX10_paysOut_73 : decode cX10_paysOut 73 = .ok (.iload 7, 2) := by decide +kernel
theorem dX10_paysOut_75 : decode cX10_paysOut 75 = .ok (.iconst 3, 1) := by decide +kernel
theorem dX10_paysOut_76 : decode cX10_paysOut 76 = .ok (.invokevirtual 53, 3) := by decide +kernel
theorem dX10_paysOut_79 : decode cX10_paysOut 79 = .ok (.ifCond .le 10, 3) := by decide +kernel
theorem dX10_paysOut_82 : decode cX10_paysOut 82 = .ok (.iconst 1, 1) := by decide +kernel
theorem dX10_paysOut_83 : decode cX10_paysOut 83 = .ok (.iload 7, 2) := by decide +kernel
theorem dX10_paysOut_85 : decode cX10_paysOut 85 = .ok (.ishl, 1) := by decide +kernel
theorem dX10_paysOut_86 : decode cX10_paysOut 86 = .ok (.goto 4, 3) := by decide +kernel
theorem dX10_paysOut_89 : decode cX10_paysOut 89 = .ok (.iconst 0, 1) := by decide +kernel
theorem dX10_paysOut_90 : decode cX10_paysOut 90 = .ok (.ior, 1) := by decide +kernel
theorem dX10_paysOut_91 : decode cX10_paysOut 91 = .ok (.istore 6, 2) := by decide +kernel
theorem dX10_paysOut_93 : decode cX10_paysOut 93 = .ok (.iinc 7 1, 3) := by decide +kernel
theorem dX10_paysOut_96 : decode cX10_paysOut 96 = .ok (.goto (-51), 3) := by decide +kernel
theorem dX10_paysOut_99 : decode cX10_paysOut 99 = .ok (.aload_n 0, 1) := by decide +kernel
theorem dX10_paysOut_100 : decode cX10_paysOut 100 = .ok (.lload 4, 2) := by decide +kernel
theorem dX10_paysOut_102 : decode cX10_paysOut 102 = .ok (.iload 6, 2) := by decide +kernel
theorem dX10_paysOut_104 : decode cX10_paysOut 104 = .ok (.iload_n 3, 1) := by decide +kernel
theorem dX10_paysOut_105 : decode cX10_paysOut 105 = .ok (.invokevirtual 171, 3) := by decide +kernel
theorem dX10_paysOut_108 : decode cX10_paysOut 108 = .ok (.istore 7, 2) := by decide +kernel
theorem dX10_paysOut_110 : decode cX10_paysOut 110 = .ok (.iload 7, 2) := by decide +kernel
theorem dX10_paysOut_112 : decode cX10_paysOut 112 = .ok (.ifCond .lt 57, 3) := by decide +kernel
theorem dX10_paysOut_115 : decode cX10_paysOut 115 = .ok (.aload_n 0, 1) := by decide +kernel
theorem dX10_paysOut_116 : decode cX10_paysOut 116 = .ok (.getfield 22, 3) := by decide +kernel
theorem dX10_paysOut_119 : decode cX10_paysOut 119 = .ok (.iload 7, 2) := by decide +kernel
theorem dX10_paysOut_121 : decode cX10_paysOut 121 = .ok (.dup2, 1) := by decide +kernel
theorem dX10_paysOut_122 : decode cX10_paysOut 122 = .ok (.laload, 1) := by decide +kernel
theorem dX10_paysOut_123 : decode cX10_paysOut 123 = .ok (.aload_n 0, 1) := by decide +kernel
theorem dX10_paysOut_124 : decode cX10_paysOut 124 = .ok (.getfield 29, 3) := by decide +kernel
theorem dX10_paysOut_127 : decode cX10_paysOut 127 = .ok (.iload 7, 2) := by decide +kernel
theorem dX10_paysOut_129 : decode cX10_paysOut 129 = .ok (.laload, 1) := by decide +kernel
theorem dX10_paysOut_130 : decode cX10_paysOut 130 = .ok (.ladd, 1) := by decide +kernel
theorem dX10_paysOut_131 : decode cX10_paysOut 131 = .ok (.lastore, 1) := by decide +kernel
theorem dX10_paysOut_132 : decode cX10_paysOut 132 = .ok (.lload 4, 2) := by decide +kernel
theorem dX10_paysOut_134 : decode cX10_paysOut 134 = .ok (.aload_n 0, 1) := by decide +kernel
theorem dX10_paysOut_135 : decode cX10_paysOut 135 = .ok (.getfield 29, 3) := by decide +kernel
theorem dX10_paysOut_138 : decode cX10_paysOut 138 = .ok (.iload 7, 2) := by decide +kernel
theorem dX10_paysOut_140 : decode cX10_paysOut 140 = .ok (.laload, 1) := by decide +kernel
theorem dX10_paysOut_141 : decode cX10_paysOut 141 = .ok (.lsub, 1) := by decide +kernel
theorem dX10_paysOut_142 : decode cX10_paysOut 142 = .ok (.lstore 4, 2) := by decide +kernel
theorem dX10_paysOut_144 : decode cX10_paysOut 144 = .ok (.iload 6, 2) := by decide +kernel
theorem dX10_paysOut_146 : decode cX10_paysOut 146 = .ok (.iconst 1, 1) := by decide +kernel
theorem dX10_paysOut_147 : decode cX10_paysOut 147 = .ok (.iload 7, 2) := by decide +kernel
theorem dX10_paysOut_149 : decode cX10_paysOut 149 = .ok (.ishl, 1) := by decide +kernel
theorem dX10_paysOut_150 : decode cX10_paysOut 150 = .ok (.iconst (-1), 1) := by decide +kernel
theorem dX10_paysOut_151 : decode cX10_paysOut 151 = .ok (.ixor, 1) := by decide +kernel
theorem dX10_paysOut_152 : decode cX10_paysOut 152 = .ok (.iand, 1) := by decide +kernel
theorem dX10_paysOut_153 : decode cX10_paysOut 153 = .ok (.istore 6, 2) := by decide +kernel
theorem dX10_paysOut_155 : decode cX10_paysOut 155 = .ok (.aload_n 0, 1) := by decide +kernel
theorem dX10_paysOut_156 : decode cX10_paysOut 156 = .ok (.lload 4, 2) := by decide +kernel
theorem dX10_paysOut_158 : decode cX10_paysOut 158 = .ok (.iload 6, 2) := by decide +kernel
theorem dX10_paysOut_160 : decode cX10_paysOut 160 = .ok (.iload_n 3, 1) := by decide +kernel
theorem dX10_paysOut_161 : decode cX10_paysOut 161 = .ok (.invokevirtual 171, 3) := by decide +kernel
theorem dX10_paysOut_164 : decode cX10_paysOut 164 = .ok (.istore 7, 2) := by decide +kernel
theorem dX10_paysOut_166 : decode cX10_paysOut 166 = .ok (.goto (-56), 3) := by decide +kernel
theorem dX10_paysOut_169 : decode cX10_paysOut 169 = .ok (.iconst 0, 1) := by decide +kernel
theorem dX10_paysOut_170 : decode cX10_paysOut 170 = .ok (.istore 8, 2) := by decide +kernel
theorem dX10_paysOut_172 : decode cX10_paysOut 172 = .ok (.iload 8, 2) := by decide +kernel
theorem dX10_paysOut_174 : decode cX10_paysOut 174 = .ok (.aload_n 0, 1) := by decide +kernel
theorem dX10_paysOut_175 : decode cX10_paysOut 175 = .ok (.getfield 7, 3) := by decide +kernel
theorem dX10_paysOut_178 : decode cX10_paysOut 178 = .ok (.iconst 0, 1) := by decide +kernel
theorem dX10_paysOut_179 : decode cX10_paysOut 179 = .ok (.iaload, 1) := by decide +kernel
theorem dX10_paysOut_180 : decode cX10_paysOut 180 = .ok (.if_icmp .ge 26, 3) := by decide +kernel
theorem dX10_paysOut_183 : decode cX10_paysOut 183 = .ok (.aload_n 0, 1) := by decide +kernel
theorem dX10_paysOut_184 : decode cX10_paysOut 184 = .ok (.getfield 22, 3) := by decide +kernel
theorem dX10_paysOut_187 : decode cX10_paysOut 187 = .ok (.iload 8, 2) := by decide +kernel
theorem dX10_paysOut_189 : decode cX10_paysOut 189 = .ok (.dup2, 1) := by decide +kernel
theorem dX10_paysOut_190 : decode cX10_paysOut 190 = .ok (.laload, 1) := by decide +kernel
theorem dX10_paysOut_191 : decode cX10_paysOut 191 = .ok (.aload_n 0, 1) := by decide +kernel
theorem dX10_paysOut_192 : decode cX10_paysOut 192 = .ok (.getfield 26, 3) := by decide +kernel
theorem dX10_paysOut_195 : decode cX10_paysOut 195 = .ok (.iload 8, 2) := by decide +kernel
theorem dX10_paysOut_197 : decode cX10_paysOut 197 = .ok (.laload, 1) := by decide +kernel
theorem dX10_paysOut_198 : decode cX10_paysOut 198 = .ok (.ladd, 1) := by decide +kernel
theorem dX10_paysOut_199 : decode cX10_paysOut 199 = .ok (.lastore, 1) := by decide +kernel
theorem dX10_paysOut_200 : decode cX10_paysOut 200 = .ok (.iinc 8 1, 3) := by decide +kernel
theorem dX10_paysOut_203 : decode cX10_paysOut 203 = .ok (.goto (-31), 3) := by decide +kernel
theorem dX10_paysOut_206 : decode cX10_paysOut 206 = .ok (.return_, 1) := by decide +kernel
set_option maxRecDepth 20000 in
theorem ggX10_nextToConvert_X10_has : GoodIn wsX10_nextToConvert wsX10_has := goodIn_r _ [7] (by decide +kernel) (by decide +kernel)
set_option maxRecDepth 20000 in
theorem gX10_nextToConvert_X10_has : GoodIn wsX10_nextToConvert (va_wsS RX10 158 yX10_has wsX10_has) := goodIn_app (goodIn_of _ (by decide +kernel)) ggX10_nextToConvert_X10_has
set_option maxRecDepth 20000 in
theorem ggX10_nextToConvert_X10_paysOut : GoodIn wsX10_nextToConvert wsX10_paysOut := goodIn_r _ [11, 3, 1, 12, 13, 14, 15, 16, 6, 17, 18, 19, 20, 21, 22, 4, 5, 7, 23, 24, 25, 26, 27, 28, 29, 30, 2, 31, 32, 33, 34, 35, 36, 37, 38, 39, 40, 41, 42, 43, 44, 45] (by decide +kernel) (by decide +kernel)
set_option maxRecDepth 20000 in
theorem gX10_nextToConvert_X10_paysOut : GoodIn wsX10_nextToConvert (wsV RX10 175 RX10 yX10_paysOut wsX10_paysOut) := goodIn_app (goodIn_of _ (by decide +kernel)) ggX10_nextToConvert_X10_paysOut
theorem dX10_nextToConvert_0 : decode cX10_nextToConvert 0 = .ok (.iconst 1, 1) := by decide +kernel
theorem dX10_nextToConvert_1 : decode cX10_nextToConvert 1 = .ok (.istore 4, 2) := by decide +kernel
theorem dX10_nextToConvert_3 : decode cX10_nextToConvert 3 = .ok (.iload 4, 2) := by decide +kernel
theorem dX10_nextToConvert_5 : decode cX10_nextToConvert 5 = .ok (.aload_n 0, 1) := by decide +kernel
theorem dX10_nextToConvert_6 : decode cX10_nextToConvert 6 = .ok (.getfield 7, 3) := by decide +kernel
theorem dX10_nextToConvert_9 : decode cX10_nextToConvert 9 = .ok (.iconst 0, 1) := by decide +kernel
theorem dX10_nextToConvert_10 : decode cX10_nextToConvert 10 = .ok (.iaload, 1) := by decide +kernel
theorem dX10_nextToConvert_11 : decode cX10_nextToConvert 11 = .ok (.if_icmp .ge 72, 3) := by decide +kernel
theorem dX10_nextToConvert_14 : decode cX10_nextToConvert 14 = .ok (.iload_n 3, 1) := by decide +kernel
theorem dX10_nextToConvert_15 : decode cX10_nextToConvert 15 = .ok (.iload 4, 2) := by decide +kernel
theorem dX10_nextToConvert_17 : decode cX10_nextToConvert 17 = .ok (.invokestatic 158, 3) := by decide +kernel
theorem dX10_nextToConvert_20 : decode cX10_nextToConvert 20 = .ok (.ifCond .ne 57, 3) := by decide +kernel
theorem dX10_nextToConvert_23 : decode cX10_nextToConvert 23 = .ok (.aload_n 0, 1) := by decide +kernel
theorem dX10_nextToConvert_24 : decode cX10_nextToConvert 24 = .ok (.getfield 32, 3) := by decide +kernel
theorem dX10_nextToConvert_27 : decode cX10_nextToConvert 27 = .ok (.iload 4, 2) := by decide +kernel
theorem dX10_nextToConvert_29 : decode cX10_nextToConvert 29 = .ok (.laload, 1) := by decide +kernel
theorem dX10_nextToConvert_30 : decode cX10_nextToConvert 30 = .ok (.lconst 0, 1) := by decide +kernel
theorem dX10_nextToConvert_31 : decode cX10_nextToConvert 31 = .ok (.lcmp, 1) := by decide +kernel
theorem dX10_nextToConvert_32 : decode cX10_nextToConvert 32 = .ok (.ifCond .le 45, 3) := by decide +kernel
theorem dX10_nextToConvert_35 : decode cX10_nextToConvert 35 = .ok (.aload_n 0, 1) := by decide +kernel
theorem dX10_nextToConvert_36 : decode cX10_nextToConvert 36 = .ok (.lload_n 1, 1) := by decide +kernel
theorem dX10_nextToConvert_37 : decode cX10_nextToConvert 37 = .ok (.iload_n 3, 1) := by decide +kernel
theorem dX10_nextToConvert_38 : decode cX10_nextToConvert 38 = .ok (.invokevirtual 175, 3) := by decide +kernel
theorem dX10_nextToConvert_41 : decode cX10_nextToConvert 41 = .ok (.aload_n 0, 1) := by decide +kernel
theorem dX10_nextToConvert_42 : decode cX10_nextToConvert 42 = .ok (.getfield 22, 3) := by decide +kernel
theorem dX10_nextToConvert_45 : decode cX10_nextToConvert 45 = .ok (.iload 4, 2) := by decide +kernel
theorem dX10_nextToConvert_47 : decode cX10_nextToConvert 47 = .ok (.laload, 1) := by decide +kernel
theorem dX10_nextToConvert_48 : decode cX10_nextToConvert 48 = .ok (.lstore 5, 2) := by decide +kernel
theorem dX10_nextToConvert_50 : decode cX10_nextToConvert 50 = .ok (.aload_n 0, 1) := by decide +kernel
theorem dX10_nextToConvert_51 : decode cX10_nextToConvert 51 = .ok (.lload_n 1, 1) := by decide +kernel
theorem dX10_nextToConvert_52 : decode cX10_nextToConvert 52 = .ok (.iload_n 3, 1) := by decide +kernel
theorem dX10_nextToConvert_53 : decode cX10_nextToConvert 53 = .ok (.iconst 1, 1) := by decide +kernel
theorem dX10_nextToConvert_54 : decode cX10_nextToConvert 54 = .ok (.iload 4, 2) := by decide +kernel
theorem dX10_nextToConvert_56 : decode cX10_nextToConvert 56 = .ok (.ishl, 1) := by decide +kernel
theorem dX10_nextToConvert_57 : decode cX10_nextToConvert 57 = .ok (.ior, 1) := by decide +kernel
theorem dX10_nextToConvert_58 : decode cX10_nextToConvert 58 = .ok (.invokevirtual 175, 3) := by decide +kernel
theorem dX10_nextToConvert_61 : decode cX10_nextToConvert 61 = .ok (.aload_n 0, 1) := by decide +kernel
theorem dX10_nextToConvert_62 : decode cX10_nextToConvert 62 = .ok (.getfield 22, 3) := by decide +kernel
theorem dX10_nextToConvert_65 : decode cX10_nextToConvert 65 = .ok (.iload 4, 2) := by decide +kernel
theorem dX10_nextToConvert_67 : decode cX10_nextToConvert 67 = .ok (.laload, 1) := by decide +kernel
theorem dX10_nextToConvert_68 : decode cX10_nextToConvert 68 = .ok (.lload 5, 2) := by decide +kernel
theorem dX10_nextToConvert_70 : decode cX10_nextToConvert 70 = .ok (.lcmp, 1) := by decide +kernel
theorem dX10_nextToConvert_71 : decode cX10_nextToConvert 71 = .ok (.ifCond .le 6, 3) := by decide +kernel
theorem dX10_nextToConvert_74 : decode cX10_nextToConvert 74 = .ok (.iload 4, 2) := by decide +kernel
theorem dX10_nextToConvert_76 : decode cX10_nextToConvert 76 = .ok (.ireturn, 1) := by decide +kernel
theorem dX10_nextToConvert_77 : decode cX10_nextToConvert 77 = .ok (.iinc 4 1, 3) := by decide +kernel
theorem dX10_nextToConvert_80 : decode cX10_nextToConvert 80 = .ok (.goto (-77), 3) := by decide +kernel
theorem dX10_nextToConvert_83 : decode cX10_nextToConvert 83 = .ok (.iconst (-1), 1) := by decide +kernel
theorem dX10_nextToConvert_84 : decode cX10_nextToConvert 84 = .ok (.ireturn, 1) := by decide +kernel
set_option maxRecDepth 20000 in
theorem ggX10_exits_X10_layClasses : GoodIn wsX10_exits wsX10_layClasses := goodIn_r _ [5, 6, 7, 8, 9, 10, 11, 4, 12, 13, 14, 15, 16, 17, 18, 19, 20, 21, 22, 23, 24, 51, 52, 53, 54, 55, 56, 57, 58, 59, 60, 61, 62, 63, 64, 65] (by decide +kernel) (by decide +kernel)
set_option maxRecDepth 20000 in
theorem gX10_exits_X10_layClasses : GoodIn wsX10_exits (wsV RX10 179 RX10 yX10_layClasses wsX10_layClasses) := goodIn_app (goodIn_of _ (by decide +kernel)) ggX10_exits_X10_layClasses
set_option maxRecDepth 20000 in
theorem ggX10_exits_X10_nextToConvert : GoodIn wsX10_exits wsX10_nextToConvert := goodIn_r _ [28, 6, 8, 29, 30, 31, 4, 32, 33, 34, 35, 36, 7, 37, 38, 39, 40, 41, 42, 43, 44, 45, 46, 21, 22, 23, 24, 47, 48, 49, 50, 51, 52, 53, 54, 55, 56, 57, 58, 59, 60, 61, 62, 63, 64, 65] (by decide +kernel) (by decide +kernel)
set_option maxRecDepth 20000 in
theorem gX10_exits_X10_nextToConvert : GoodIn wsX10_exits (wsV RX10 182 RX10 yX10_nextToConvert wsX10_nextToConvert) := goodIn_app (goodIn_of _ (by decide +kernel)) ggX10_exits_X10_nextToConvert
set_option maxRecDepth 20000 in
theorem ggX10_exits_X10_paysOut : GoodIn wsX10_exits wsX10_paysOut := goodIn_r _ [36, 29, 6, 7, 37, 38, 39, 40, 4, 41, 42, 43, 44, 45, 46, 30, 31, 32, 21, 22, 23, 24, 47, 48, 49, 50, 8, 51, 52, 53, 54, 55, 56, 57, 58, 59, 60, 61, 62, 63, 64, 65] (by decide +kernel) (by decide +kernel)
set_option maxRecDepth 20000 in
theorem gX10_exits_X10_paysOut : GoodIn wsX10_exits (wsV RX10 175 RX10 yX10_paysOut wsX10_paysOut) := goodIn_app (goodIn_of _ (by decide +kernel)) ggX10_exits_X10_paysOut
theorem dX10_exits_0 : decode cX10_exits 0 = .ok (.aload_n 0, 1) := by decide +kernel
theorem dX10_exits_1 : decode cX10_exits 1 = .ok (.invokevirtual 179, 3) := by decide +kernel
theorem dX10_exits_4 : decode cX10_exits 4 = .ok (.iconst 0, 1) := by decide +kernel
theorem dX10_exits_5 : decode cX10_exits 5 = .ok (.istore_n 2, 1) := by decide +kernel
theorem dX10_exits_6 : decode cX10_exits 6 = .ok (.aload_n 0, 1) := by decide +kernel
theorem dX10_exits_7 : decode cX10_exits 7 = .ok (.iload_n 1, 1) := by decide +kernel
theorem dX10_exits_8 : decode cX10_exits 8 = .ok (.i2l, 1) := by decide +kernel
theorem dX10_exits_9 : decode cX10_exits 9 = .ok (.iload_n 2, 1) := by decide +kernel
theorem dX10_exits_10 : decode cX10_exits 10 = .ok (.invokevirtual 182, 3) := by decide +kernel
theorem dX10_exits_13 : decode cX10_exits 13 = .ok (.istore_n 3, 1) := by decide +kernel
theorem dX10_exits_14 : decode cX10_exits 14 = .ok (.iload_n 3, 1) := by decide +kernel
theorem dX10_exits_15 : decode cX10_exits 15 = .ok (.ifCond .lt 20, 3) := by decide +kernel
theorem dX10_exits_18 : decode cX10_exits 18 = .ok (.iload_n 2, 1) := by decide +kernel
theorem dX10_exits_19 : decode cX10_exits 19 = .ok (.iconst 1, 1) := by decide +kernel
theorem dX10_exits_20 : decode cX10_exits 20 = .ok (.iload_n 3, 1) := by decide +kernel
theorem dX10_exits_21 : decode cX10_exits 21 = .ok (.ishl, 1) := by decide +kernel
theorem dX10_exits_22 : decode cX10_exits 22 = .ok (.ior, 1) := by decide +kernel
theorem dX10_exits_23 : decode cX10_exits 23 = .ok (.istore_n 2, 1) := by decide +kernel
theorem dX10_exits_24 : decode cX10_exits 24 = .ok (.aload_n 0, 1) := by decide +kernel
theorem dX10_exits_25 : decode cX10_exits 25 = .ok (.iload_n 1, 1) := by decide +kernel
theorem dX10_exits_26 : decode cX10_exits 26 = .ok (.i2l, 1) := by decide +kernel
theorem dX10_exits_27 : decode cX10_exits 27 = .ok (.iload_n 2, 1) := by decide +kernel
theorem dX10_exits_28 : decode cX10_exits 28 = .ok (.invokevirtual 182, 3) := by decide +kernel
theorem dX10_exits_31 : decode cX10_exits 31 = .ok (.istore_n 3, 1) := by decide +kernel
theorem dX10_exits_32 : decode cX10_exits 32 = .ok (.goto (-18), 3) := by decide +kernel
theorem dX10_exits_35 : decode cX10_exits 35 = .ok (.aload_n 0, 1) := by decide +kernel
theorem dX10_exits_36 : decode cX10_exits 36 = .ok (.iload_n 1, 1) := by decide +kernel
theorem dX10_exits_37 : decode cX10_exits 37 = .ok (.i2l, 1) := by decide +kernel
theorem dX10_exits_38 : decode cX10_exits 38 = .ok (.iload_n 2, 1) := by decide +kernel
theorem dX10_exits_39 : decode cX10_exits 39 = .ok (.invokevirtual 175, 3) := by decide +kernel
theorem dX10_exits_42 : decode cX10_exits 42 = .ok (.iload_n 2, 1) := by decide +kernel
theorem dX10_exits_43 : decode cX10_exits 43 = .ok (.ireturn, 1) := by decide +kernel
set_option maxRecDepth 20000 in
theorem ggX10_areProceeds_X10_in : GoodIn wsX10_areProceeds wsX10_in := goodIn_r _ [5] (by decide +kernel) (by decide +kernel)
set_option maxRecDepth 20000 in
theorem gX10_areProceeds_X10_in : GoodIn wsX10_areProceeds (va_wsS RX10 42 yX10_in wsX10_in) := goodIn_app (goodIn_of _ (by decide +kernel)) ggX10_areProceeds_X10_in
theorem dX10_areProceeds_0 : decode cX10_areProceeds 0 = .ok (.iload_n 0, 1) := by decide +kernel
theorem dX10_areProceeds_1 : decode cX10_areProceeds 1 = .ok (.iconst 0, 1) := by decide +kernel
theorem dX10_areProceeds_2 : decode cX10_areProceeds 2 = .ok (.ldc 186, 2) := by decide +kernel
theorem dX10_areProceeds_4 : decode cX10_areProceeds 4 = .ok (.invokestatic 42, 3) := by decide +kernel
theorem dX10_areProceeds_7 : decode cX10_areProceeds 7 = .ok (.ireturn, 1) := by decide +kernel
set_option maxRecDepth 20000 in
theorem ggX10_converts_X10_areProceeds : GoodIn wsX10_converts wsX10_areProceeds := goodIn_r _ [4, 5, 6, 7, 3, 8] (by decide +kernel) (by decide +kernel)
set_option maxRecDepth 20000 in
theorem gX10_converts_X10_areProceeds : GoodIn wsX10_converts (va_wsS RX10 187 yX10_areProceeds wsX10_areProceeds) := goodIn_app (goodIn_of _ (by decide +kernel)) ggX10_converts_X10_areProceeds
set_option maxRecDepth 20000 in
theorem ggX10_converts_X10_exits : GoodIn wsX10_converts wsX10_exits := goodIn_r _ [12, 13, 14, 15, 3, 16, 17, 18, 19, 20, 21, 22, 23, 24, 25, 26, 27, 28, 29, 30, 31, 32, 33, 34, 35, 36, 37, 38, 39, 40, 41, 42, 43, 44, 45, 46, 47, 48, 49, 50, 51, 52, 53, 54, 55, 56, 57, 58, 59, 60, 61, 62, 63, 64, 65, 66, 67, 68, 69, 70, 71, 72, 73, 74, 75, 76] (by decide +kernel) (by decide +kernel)
set_option maxRecDepth 20000 in
theorem gX10_converts_X10_exits : GoodIn wsX10_converts (wsV RX10 190 RX10 yX10_exits wsX10_exits) := goodIn_app (goodIn_of _ (by decide +kernel)) ggX10_converts_X10_exits
theorem dX10_converts_0 : decode cX10_converts 0 = .ok (.iload_n 1, 1) := by decide +kernel
theorem dX10_converts_1 : decode cX10_converts 1 = .ok (.invokestatic 187, 3) := by decide +kernel
theorem dX10_converts_4 : decode cX10_converts 4 = .ok (.ifCond .eq 11, 3) := by decide +kernel
theorem dX10_converts_7 : decode cX10_converts 7 = .ok (.aload_n 0, 1) := by decide +kernel
theorem dX10_converts_8 : decode cX10_converts 8 = .ok (.iload_n 1, 1) := by decide +kernel
theorem dX10_converts_9 : decode cX10_converts 9 = .ok (.invokevirtual 190, 3) := by decide +kernel
theorem dX10_converts_12 : decode cX10_converts 12 = .ok (.goto 4, 3) := by decide +kernel
theorem dX10_converts_15 : decode cX10_converts 15 = .ok (.iconst (-1), 1) := by decide +kernel
theorem dX10_converts_16 : decode cX10_converts 16 = .ok (.ireturn, 1) := by decide +kernel
set_option maxRecDepth 20000 in
theorem ggX10_classGets_X10_areProceeds : GoodIn wsX10_classGets wsX10_areProceeds := goodIn_r _ [5, 6, 7, 8, 4, 9] (by decide +kernel) (by decide +kernel)
set_option maxRecDepth 20000 in
theorem gX10_classGets_X10_areProceeds : GoodIn wsX10_classGets (va_wsS RX10 187 yX10_areProceeds wsX10_areProceeds) := goodIn_app (goodIn_of _ (by decide +kernel)) ggX10_classGets_X10_areProceeds
set_option maxRecDepth 20000 in
theorem ggX10_classGets_X10_isClass : GoodIn wsX10_classGets wsX10_isClass := goodIn_r _ [13, 14, 7, 8, 4, 9, 66, 67, 68, 69, 70, 71, 72, 73, 74, 75, 76, 77, 78, 79, 80] (by decide +kernel) (by decide +kernel)
set_option maxRecDepth 20000 in
theorem gX10_classGets_X10_isClass : GoodIn wsX10_classGets (wsV RX10 73 RX10 yX10_isClass wsX10_isClass) := goodIn_app (goodIn_of _ (by decide +kernel)) ggX10_classGets_X10_isClass
set_option maxRecDepth 20000 in
theorem ggX10_classGets_X10_exits : GoodIn wsX10_classGets wsX10_exits := goodIn_r _ [18, 19, 20, 21, 4, 22, 14, 23, 24, 25, 26, 27, 28, 29, 30, 31, 32, 33, 34, 35, 36, 37, 38, 39, 40, 41, 42, 43, 44, 1, 45, 46, 47, 48, 49, 50, 51, 52, 53, 54, 55, 56, 57, 58, 59, 60, 61, 62, 63, 64, 65, 66, 67, 68, 69, 70, 71, 72, 73, 74, 75, 76, 77, 78, 79, 80] (by decide +kernel) (by decide +kernel)
set_option maxRecDepth 20000 in
theorem gX10_classGets_X10_exits : GoodIn wsX10_classGets (wsV RX10 190 RX10 yX10_exits wsX10_exits) := goodIn_app (goodIn_of _ (by decide +kernel)) ggX10_classGets_X10_exits
theorem dX10_classGets_0 : decode cX10_classGets 0 = .ok (.iload_n 1, 1) := by decide +kernel
theorem dX10_classGets_1 : decode cX10_classGets 1 = .ok (.invokestatic 187, 3) := by decide +kernel
theorem dX10_classGets_4 : decode cX10_classGets 4 = .ok (.ifCond .eq 11, 3) := by decide +kernel
theorem dX10_classGets_7 : decode cX10_classGets 7 = .ok (.aload_n 0, 1) := by decide +kernel
theorem dX10_classGets_8 : decode cX10_classGets 8 = .ok (.iload_n 2, 1) := by decide +kernel
theorem dX10_classGets_9 : decode cX10_classGets 9 = .ok (.invokevirtual 73, 3) := by decide +kernel
theorem dX10_classGets_12 : decode cX10_classGets 12 = .ok (.ifCond .ne 5, 3) := by decide +kernel
theorem dX10_classGets_15 : decode cX10_classGets 15 = .ok (.iconst (-1), 1) := by decide +kernel
theorem dX10_classGets_16 : decode cX10_classGets 16 = .ok (.ireturn, 1) := by decide +kernel
theorem dX10_classGets_17 : decode cX10_classGets 17 = .ok (.aload_n 0, 1) := by decide +kernel
theorem dX10_classGets_18 : decode cX10_classGets 18 = .ok (.iload_n 1, 1) := by decide +kernel
theorem dX10_classGets_19 : decode cX10_classGets 19 = .ok (.invokevirtual 190, 3) := by decide +kernel
theorem dX10_classGets_22 : decode cX10_classGets 22 = .ok (.istore_n 3, 1) := by decide +kernel
theorem dX10_classGets_23 : decode cX10_classGets 23 = .ok (.iload_n 3, 1) := by decide +kernel
theorem dX10_classGets_24 : decode cX10_classGets 24 = .ok (.ifCond .ge 7, 3) := by decide +kernel
theorem dX10_classGets_27 : decode cX10_classGets 27 = .ok (.iconst 0, 1) := by decide +kernel
theorem dX10_classGets_28 : decode cX10_classGets 28 = .ok (.goto 10, 3) := by decide +kernel
theorem dX10_classGets_31 : decode cX10_classGets 31 = .ok (.aload_n 0, 1) := by decide +kernel
theorem dX10_classGets_32 : decode cX10_classGets 32 = .ok (.getfield 22, 3) := by decide +kernel
theorem dX10_classGets_35 : decode cX10_classGets 35 = .ok (.iload_n 2, 1) := by decide +kernel
theorem dX10_classGets_36 : decode cX10_classGets 36 = .ok (.laload, 1) := by decide +kernel
theorem dX10_classGets_37 : decode cX10_classGets 37 = .ok (.l2i, 1) := by decide +kernel
theorem dX10_classGets_38 : decode cX10_classGets 38 = .ok (.ireturn, 1) := by decide +kernel
set_option maxRecDepth 20000 in
theorem ggX10_holderGets_X10_areProceeds : GoodIn wsX10_holderGets wsX10_areProceeds := goodIn_r _ [6, 7, 8, 9, 5, 10] (by decide +kernel) (by decide +kernel)
set_option maxRecDepth 20000 in
theorem gX10_holderGets_X10_areProceeds : GoodIn wsX10_holderGets (va_wsS RX10 187 yX10_areProceeds wsX10_areProceeds) := goodIn_app (goodIn_of _ (by decide +kernel)) ggX10_holderGets_X10_areProceeds
set_option maxRecDepth 20000 in
theorem ggX10_holderGets_X10_isHolder : GoodIn wsX10_holderGets wsX10_isHolder := goodIn_r _ [14, 1, 8, 9, 5, 10, 66, 67, 68, 69, 70, 71, 72, 73, 74, 75, 76, 77, 78, 79, 80] (by decide +kernel) (by decide +kernel)
set_option maxRecDepth 20000 in
theorem gX10_holderGets_X10_isHolder : GoodIn wsX10_holderGets (wsV RX10 70 RX10 yX10_isHolder wsX10_isHolder) := goodIn_app (goodIn_of _ (by decide +kernel)) ggX10_holderGets_X10_isHolder
set_option maxRecDepth 20000 in
theorem ggX10_holderGets_X10_exits : GoodIn wsX10_holderGets wsX10_exits := goodIn_r _ [18, 19, 20, 21, 5, 22, 1, 23, 24, 25, 26, 27, 28, 29, 30, 31, 32, 33, 34, 35, 36, 37, 38, 39, 40, 41, 42, 43, 44, 2, 45, 46, 47, 48, 49, 50, 51, 52, 53, 54, 55, 56, 57, 58, 59, 60, 61, 62, 63, 64, 65, 66, 67, 68, 69, 70, 71, 72, 73, 74, 75, 76, 77, 78, 79, 80] (by decide +kernel) (by decide +kernel)
set_option maxRecDepth 20000 in
theorem gX10_holderGets_X10_exits : GoodIn wsX10_holderGets (wsV RX10 190 RX10 yX10_exits wsX10_exits) := goodIn_app (goodIn_of _ (by decide +kernel)) ggX10_holderGets_X10_exits
set_option maxRecDepth 20000 in
theorem ggX10_holderGets_X10_sharesOf : GoodIn wsX10_holderGets wsX10_sharesOf := goodIn_r _ [32, 33, 34, 35, 5, 36, 1, 66, 67, 68, 69, 70, 71, 72, 73, 74, 75, 76, 77, 78, 79, 80] (by decide +kernel) (by decide +kernel)
set_option maxRecDepth 20000 in
theorem gX10_holderGets_X10_sharesOf : GoodIn wsX10_holderGets (wsV RX10 50 RX10 yX10_sharesOf wsX10_sharesOf) := goodIn_app (goodIn_of _ (by decide +kernel)) ggX10_holderGets_X10_sharesOf
theorem dX10_holderGets_0 : decode cX10_holderGets 0 = .ok (.iload_n 1, 1) := by decide +kernel
theorem dX10_holderGets_1 : decode cX10_holderGets 1 = .ok (.invokestatic 187, 3) := by decide +kernel
theorem dX10_holderGets_4 : decode cX10_holderGets 4 = .ok (.ifCond .eq 11, 3) := by decide +kernel
theorem dX10_holderGets_7 : decode cX10_holderGets 7 = .ok (.aload_n 0, 1) := by decide +kernel
theorem dX10_holderGets_8 : decode cX10_holderGets 8 = .ok (.iload_n 2, 1) := by decide +kernel
theorem dX10_holderGets_9 : decode cX10_holderGets 9 = .ok (.invokevirtual 70, 3) := by decide +kernel
theorem dX10_holderGets_12 : decode cX10_holderGets 12 = .ok (.ifCond .ne 5, 3) := by decide +kernel
theorem dX10_holderGets_15 : decode cX10_holderGets 15 = .ok (.iconst (-1), 1) := by decide +kernel
theorem dX10_holderGets_16 : decode cX10_holderGets 16 = .ok (.ireturn, 1) := by decide +kernel
theorem dX10_holderGets_17 : decode cX10_holderGets 17 = .ok (.aload_n 0, 1) := by decide +kernel
theorem dX10_holderGets_18 : decode cX10_holderGets 18 = .ok (.iload_n 1, 1) := by decide +kernel
theorem dX10_holderGets_19 : decode cX10_holderGets 19 = .ok (.invokevirtual 190, 3) := by decide +kernel
theorem dX10_holderGets_22 : decode cX10_holderGets 22 = .ok (.istore_n 3, 1) := by decide +kernel
theorem dX10_holderGets_23 : decode cX10_holderGets 23 = .ok (.lconst 0, 1) := by decide +kernel
theorem dX10_holderGets_24 : decode cX10_holderGets 24 = .ok (.lstore 4, 2) := by decide +kernel
theorem dX10_holderGets_26 : decode cX10_holderGets 26 = .ok (.iconst 0, 1) := by decide +kernel
theorem dX10_holderGets_27 : decode cX10_holderGets 27 = .ok (.istore 6, 2) := by decide +kernel
theorem dX10_holderGets_29 : decode cX10_holderGets 29 = .ok (.iload 6, 2) := by decide +kernel
theorem dX10_holderGets_31 : decode cX10_holderGets 31 = .ok (.aload_n 0, 1) := by decide +kernel
theorem dX10_holderGets_32 : decode cX10_holderGets 32 = .ok (.getfield 7, 3) := by decide +kernel
theorem dX10_holderGets_35 : decode cX10_holderGets 35 = .ok (.iconst 0, 1) := by decide +kernel
theorem dX10_holderGets_36 : decode cX10_holderGets 36 = .ok (.iaload, 1) := by decide +kernel
theorem dX10_holderGets_37 : decode cX10_holderGets 37 = .ok (.if_icmp .ge 56, 3) := by decide +kernel
theorem dX10_holderGets_40 : decode cX10_holderGets 40 = .ok (.iload_n 3, 1) := by decide +kernel
theorem dX10_holderGets_41 : decode cX10_holderGets 41 = .ok (.ifCond .lt 52, 3) := by decide +kernel
theorem dX10_holderGets_44 : decode cX10_holderGets 44 = .ok (.aload_n 0, 1) := by decide +kernel
theorem dX10_holderGets_45 : decode cX10_holderGets 45 = .ok (.iconst (-1), 1) := by decide +kernel
theorem dX10_holderGets_46 : decode cX10_holderGets 46 = .ok (.iload 6, 2) := by decide +kernel
theorem dX10_holderGets_48 : decode cX10_holderGets 48 = .ok (.invokevirtual 50, 3) := by decide +kernel
theorem dX10_holderGets_51 : decode cX10_holderGets 51 = .ok (.istore 7, 2) := by decide +kernel
theorem dX10_holderGets_53 : decode cX10_holderGets 53 = .ok (.lload 4, 2) := by decide +kernel
theorem dX10_holderGets_55 : decode cX10_holderGets 55 = .ok (.iload 7, 2) := by decide +kernel
theorem dX10_holderGets_57 : decode cX10_holderGets 57 = .ok (.ifCond .le 26, 3) := by decide +kernel
theorem dX10_holderGets_60 : decode cX10_holderGets 60 = .ok (.aload_n 0, 1) := by decide +kernel
theorem dX10_holderGets_61 : decode cX10_holderGets 61 = .ok (.getfield 22, 3) := by decide +kernel
theorem dX10_holderGets_64 : decode cX10_holderGets 64 = .ok (.iload 6, 2) := by decide +kernel
theorem dX10_holderGets_66 : decode cX10_holderGets 66 = .ok (.laload, 1) := by decide +kernel
theorem dX10_holderGets_67 : decode cX10_holderGets 67 = .ok (.aload_n 0, 1) := by decide +kernel
theorem dX10_holderGets_68 : decode cX10_holderGets 68 = .ok (.iload_n 2, 1) := by decide +kernel
theorem dX10_holderGets_69 : decode cX10_holderGets 69 = .ok (.iload 6, 2) := by decide +kernel
theorem dX10_holderGets_71 : decode cX10_holderGets 71 = .ok (.invokevirtual 50, 3) := by decide +kernel
theorem dX10_holderGets_74 : decode cX10_holderGets 74 = .ok (.i2l, 1) := by decide +kernel
theorem dX10_holderGets_75 : decode cX10_holderGets 75 = .ok (.lmul, 1) := by decide +kernel
theorem dX10_holderGets_76 : decode cX10_holderGets 76 = .ok (.iload 7, 2) := by decide +kernel
theorem dX10_holderGets_78 : decode cX10_holderGets 78 = .ok (.i2l, 1) := by decide +kernel
theorem dX10_holderGets_79 : decode cX10_holderGets 79 = .ok (.ldiv, 1) := by decide +kernel
theorem dX10_holderGets_80 : decode cX10_holderGets 80 = .ok (.goto 4, 3) := by decide +kernel
theorem dX10_holderGets_83 : decode cX10_holderGets 83 = .ok (.lconst 0, 1) := by decide +kernel
theorem dX10_holderGets_84 : decode cX10_holderGets 84 = .ok (.ladd, 1) := by decide +kernel
theorem dX10_holderGets_85 : decode cX10_holderGets 85 = .ok (.lstore 4, 2) := by decide +kernel
theorem dX10_holderGets_87 : decode cX10_holderGets 87 = .ok (.iinc 6 1, 3) := by decide +kernel
theorem dX10_holderGets_90 : decode cX10_holderGets 90 = .ok (.goto (-61), 3) := by decide +kernel
theorem dX10_holderGets_93 : decode cX10_holderGets 93 = .ok (.lload 4, 2) := by decide +kernel
theorem dX10_holderGets_95 : decode cX10_holderGets 95 = .ok (.l2i, 1) := by decide +kernel
theorem dX10_holderGets_96 : decode cX10_holderGets 96 = .ok (.ireturn, 1) := by decide +kernel
set_option maxRecDepth 20000 in
theorem ggX10_byGain_X10_areProceeds : GoodIn wsX10_byGain wsX10_areProceeds := goodIn_r _ [6, 7, 8, 9, 5, 10] (by decide +kernel) (by decide +kernel)
set_option maxRecDepth 20000 in
theorem gX10_byGain_X10_areProceeds : GoodIn wsX10_byGain (va_wsS RX10 187 yX10_areProceeds wsX10_areProceeds) := goodIn_app (goodIn_of _ (by decide +kernel)) ggX10_byGain_X10_areProceeds
set_option maxRecDepth 20000 in
theorem ggX10_byGain_X10_exits : GoodIn wsX10_byGain wsX10_exits := goodIn_r _ [14, 15, 16, 17, 5, 18, 1, 19, 20, 21, 22, 23, 24, 25, 26, 27, 28, 29, 30, 31, 32, 33, 34, 35, 36, 37, 38, 39, 40, 2, 41, 42, 43, 44, 45, 46, 47, 48, 49, 50, 51, 52, 53, 54, 55, 56, 57, 58, 59, 60, 61, 62, 63, 64, 65, 66, 67, 68, 69, 70, 71, 72, 73, 74, 75, 76] (by decide +kernel) (by decide +kernel)
set_option maxRecDepth 20000 in
theorem gX10_byGain_X10_exits : GoodIn wsX10_byGain (wsV RX10 190 RX10 yX10_exits wsX10_exits) := goodIn_app (goodIn_of _ (by decide +kernel)) ggX10_byGain_X10_exits
theorem dX10_byGain_0 : decode cX10_byGain 0 = .ok (.iload_n 1, 1) := by decide +kernel
theorem dX10_byGain_1 : decode cX10_byGain 1 = .ok (.invokestatic 187, 3) := by decide +kernel
theorem dX10_byGain_4 : decode cX10_byGain 4 = .ok (.ifCond .eq 7, 3) := by decide +kernel
theorem dX10_byGain_7 : decode cX10_byGain 7 = .ok (.iload_n 2, 1) := by decide +kernel
theorem dX10_byGain_8 : decode cX10_byGain 8 = .ok (.ifCond .ge 5, 3) := by decide +kernel
theorem dX10_byGain_11 : decode cX10_byGain 11 = .ok (.iconst (-1), 1) := by decide +kernel
theorem dX10_byGain_12 : decode cX10_byGain 12 = .ok (.ireturn, 1) := by decide +kernel
theorem dX10_byGain_13 : decode cX10_byGain 13 = .ok (.aload_n 0, 1) := by decide +kernel
theorem dX10_byGain_14 : decode cX10_byGain 14 = .ok (.iload_n 1, 1) := by decide +kernel
theorem dX10_byGain_15 : decode cX10_byGain 15 = .ok (.invokevirtual 190, 3) := by decide +kernel
theorem dX10_byGain_18 : decode cX10_byGain 18 = .ok (.istore_n 3, 1) := by decide +kernel
theorem dX10_byGain_19 : decode cX10_byGain 19 = .ok (.iconst 0, 1) := by decide +kernel
theorem dX10_byGain_20 : decode cX10_byGain 20 = .ok (.istore 4, 2) := by decide +kernel
theorem dX10_byGain_22 : decode cX10_byGain 22 = .ok (.iload 4, 2) := by decide +kernel
theorem dX10_byGain_24 : decode cX10_byGain 24 = .ok (.aload_n 0, 1) := by decide +kernel
theorem dX10_byGain_25 : decode cX10_byGain 25 = .ok (.getfield 7, 3) := by decide +kernel
theorem dX10_byGain_28 : decode cX10_byGain 28 = .ok (.iconst 0, 1) := by decide +kernel
theorem dX10_byGain_29 : decode cX10_byGain 29 = .ok (.iaload, 1) := by decide +kernel
theorem dX10_byGain_30 : decode cX10_byGain 30 = .ok (.if_icmp .ge 98, 3) := by decide +kernel
theorem dX10_byGain_33 : decode cX10_byGain 33 = .ok (.iload_n 3, 1) := by decide +kernel
theorem dX10_byGain_34 : decode cX10_byGain 34 = .ok (.ifCond .lt 94, 3) := by decide +kernel
theorem dX10_byGain_37 : decode cX10_byGain 37 = .ok (.iconst 0, 1) := by decide +kernel
theorem dX10_byGain_38 : decode cX10_byGain 38 = .ok (.istore 5, 2) := by decide +kernel
theorem dX10_byGain_40 : decode cX10_byGain 40 = .ok (.iconst 0, 1) := by decide +kernel
theorem dX10_byGain_41 : decode cX10_byGain 41 = .ok (.istore 6, 2) := by decide +kernel
theorem dX10_byGain_43 : decode cX10_byGain 43 = .ok (.iload 6, 2) := by decide +kernel
theorem dX10_byGain_45 : decode cX10_byGain 45 = .ok (.aload_n 0, 1) := by decide +kernel
theorem dX10_byGain_46 : decode cX10_byGain 46 = .ok (.getfield 7, 3) := by decide +kernel
theorem dX10_byGain_49 : decode cX10_byGain 49 = .ok (.iconst 0, 1) := by decide +kernel
theorem dX10_byGain_50 : decode cX10_byGain 50 = .ok (.iaload, 1) := by decide +kernel
theorem dX10_byGain_51 : decode cX10_byGain 51 = .ok (.if_icmp .ge 62, 3) := by decide +kernel
theorem dX10_byGain_54 : decode cX10_byGain 54 = .ok (.iload 5, 2) := by decide +kernel
theorem dX10_byGain_56 : decode cX10_byGain 56 = .ok (.aload_n 0, 1) := by decide +kernel
theorem dX10_byGain_57 : decode cX10_byGain 57 = .ok (.getfield 22, 3) := by decide +kernel
theorem dX10_byGain_60 : decode cX10_byGain 60 = .ok (.iload 6, 2) := by decide +kernel
theorem dX10_byGain_62 : decode cX10_byGain 62 = .ok (.laload, 1) := by decide +kernel
theorem dX10_byGain_63 : decode cX10_byGain 63 = .ok (.aload_n 0, 1) := by decide +kernel
theorem dX10_byGain_64 : decode cX10_byGain 64 = .ok (.getfield 22, 3) := by decide +kernel
theorem dX10_byGain_67 : decode cX10_byGain 67 = .ok (.iload 4, 2) := by decide +kernel
theorem dX10_byGain_69 : decode cX10_byGain 69 = .ok (.laload, 1) := by decide +kernel
theorem dX10_byGain_70 : decode cX10_byGain 70 = .ok (.lcmp, 1) := by decide +kernel
theorem dX10_byGain_71 : decode cX10_byGain 71 = .ok (.ifCond .gt 28, 3) := by decide +kernel
theorem dX10_byGain_74 : decode cX10_byGain 74 = .ok (.aload_n 0, 1) := by decide +kernel
theorem dX10_byGain_75 : decode cX10_byGain 75 = .ok (.getfield 22, 3) := by decide +kernel
theorem dX10_byGain_78 : decode cX10_byGain 78 = .ok (.iload 6, 2) := by decide +kernel
theorem dX10_byGain_80 : decode cX10_byGain 80 = .ok (.laload, 1) := by decide +kernel
theorem dX10_byGain_81 : decode cX10_byGain 81 = .ok (.aload_n 0, 1) := by decide +kernel
theorem dX10_byGain_82 : decode cX10_byGain 82 = .ok (.getfield 22, 3) := by decide +kernel
theorem dX10_byGain_85 : decode cX10_byGain 85 = .ok (.iload 4, 2) := by decide +kernel
theorem dX10_byGain_87 : decode cX10_byGain 87 = .ok (.laload, 1) := by decide +kernel
theorem dX10_byGain_88 : decode cX10_byGain 88 = .ok (.lcmp, 1) := by decide +kernel
theorem dX10_byGain_89 : decode cX10_byGain 89 = .ok (.ifCond .ne 14, 3) := by decide +kernel
theorem dX10_byGain_92 : decode cX10_byGain 92 = .ok (.iload 6, 2) := by decide +kernel
theorem dX10_byGain_94 : decode cX10_byGain 94 = .ok (.iload 4, 2) := by decide +kernel
theorem dX10_byGain_96 : decode cX10_byGain 96 = .ok (.if_icmp .ge 7, 3) := by decide +kernel
theorem dX10_byGain_99 : decode cX10_byGain 99 = .ok (.iconst 1, 1) := by decide +kernel
theorem dX10_byGain_100 : decode cX10_byGain 100 = .ok (.goto 4, 3) := by decide +kernel
theorem dX10_byGain_103 : decode cX10_byGain 103 = .ok (.iconst 0, 1) := by decide +kernel
theorem dX10_byGain_104 : decode cX10_byGain 104 = .ok (.iadd, 1) := by decide +kernel
theorem dX10_byGain_105 : decode cX10_byGain 105 = .ok (.istore 5, 2) := by decide +kernel
theorem dX10_byGain_107 : decode cX10_byGain 107 = .ok (.iinc 6 1, 3) := by decide +kernel
theorem dX10_byGain_110 : decode cX10_byGain 110 = .ok (.goto (-67), 3) := by decide +kernel
theorem dX10_byGain_113 : decode cX10_byGain 113 = .ok (.iload 5, 2) := by decide +kernel
theorem dX10_byGain_115 : decode cX10_byGain 115 = .ok (.iload_n 2, 1) := by decide +kernel
theorem dX10_byGain_116 : decode cX10_byGain 116 = .ok (.if_icmp .ne 6, 3) := by decide +kernel
theorem dX10_byGain_119 : decode cX10_byGain 119 = .ok (.iload 4, 2) := by decide +kernel
theorem dX10_byGain_121 : decode cX10_byGain 121 = .ok (.ireturn, 1) := by decide +kernel
theorem dX10_byGain_122 : decode cX10_byGain 122 = .ok (.iinc 4 1, 3) := by decide +kernel
theorem dX10_byGain_125 : decode cX10_byGain 125 = .ok (.goto (-103), 3) := by decide +kernel
theorem dX10_byGain_128 : decode cX10_byGain 128 = .ok (.bipush (-4), 2) := by decide +kernel
theorem dX10_byGain_130 : decode cX10_byGain 130 = .ok (.ireturn, 1) := by decide +kernel
theorem dX10_undo_0 : decode cX10_undo 0 = .ok (.aload_n 0, 1) := by decide +kernel
theorem dX10_undo_1 : decode cX10_undo 1 = .ok (.getfield 38, 3) := by decide +kernel
theorem dX10_undo_4 : decode cX10_undo 4 = .ok (.ifCond .ne 6, 3) := by decide +kernel
theorem dX10_undo_7 : decode cX10_undo 7 = .ok (.bipush (-2), 2) := by decide +kernel
theorem dX10_undo_9 : decode cX10_undo 9 = .ok (.ireturn, 1) := by decide +kernel
theorem dX10_undo_10 : decode cX10_undo 10 = .ok (.aload_n 0, 1) := by decide +kernel
theorem dX10_undo_11 : decode cX10_undo 11 = .ok (.dup, 1) := by decide +kernel
theorem dX10_undo_12 : decode cX10_undo 12 = .ok (.getfield 38, 3) := by decide +kernel
theorem dX10_undo_15 : decode cX10_undo 15 = .ok (.iconst 1, 1) := by decide +kernel
theorem dX10_undo_16 : decode cX10_undo 16 = .ok (.isub, 1) := by decide +kernel
theorem dX10_undo_17 : decode cX10_undo 17 = .ok (.putfield 38, 3) := by decide +kernel
theorem dX10_undo_20 : decode cX10_undo 20 = .ok (.iconst 0, 1) := by decide +kernel
theorem dX10_undo_21 : decode cX10_undo 21 = .ok (.istore_n 1, 1) := by decide +kernel
theorem dX10_undo_22 : decode cX10_undo 22 = .ok (.iload_n 1, 1) := by decide +kernel
theorem dX10_undo_23 : decode cX10_undo 23 = .ok (.sipush 213, 3) := by decide +kernel
theorem dX10_undo_26 : decode cX10_undo 26 = .ok (.if_icmp .ge 30, 3) := by decide +kernel
theorem dX10_undo_29 : decode cX10_undo 29 = .ok (.aload_n 0, 1) := by decide +kernel
theorem dX10_undo_30 : decode cX10_undo 30 = .ok (.getfield 7, 3) := by decide +kernel
theorem dX10_undo_33 : decode cX10_undo 33 = .ok (.iload_n 1, 1) := by decide +kernel
theorem dX10_undo_34 : decode cX10_undo 34 = .ok (.aload_n 0, 1) := by decide +kernel
theorem dX10_undo_35 : decode cX10_undo 35 = .ok (.getfield 16, 3) := by decide +kernel
theorem dX10_undo_38 : decode cX10_undo 38 = .ok (.sipush 213, 3) := by decide +kernel
theorem dX10_undo_41 : decode cX10_undo 41 = .ok (.aload_n 0, 1) := by decide +kernel
theorem dX10_undo_42 : decode cX10_undo 42 = .ok (.getfield 38, 3) := by decide +kernel
theorem dX10_undo_45 : decode cX10_undo 45 = .ok (.imul, 1) := by decide +kernel
theorem dX10_undo_46 : decode cX10_undo 46 = .ok (.iload_n 1, 1) := by decide +kernel
theorem dX10_undo_47 : decode cX10_undo 47 = .ok (.iadd, 1) := by decide +kernel
theorem dX10_undo_48 : decode cX10_undo 48 = .ok (.iaload, 1) := by decide +kernel
theorem dX10_undo_49 : decode cX10_undo 49 = .ok (.iastore, 1) := by decide +kernel
theorem dX10_undo_50 : decode cX10_undo 50 = .ok (.iinc 1 1, 3) := by decide +kernel
theorem dX10_undo_53 : decode cX10_undo 53 = .ok (.goto (-31), 3) := by decide +kernel
theorem dX10_undo_56 : decode cX10_undo 56 = .ok (.aload_n 0, 1) := by decide +kernel
theorem dX10_undo_57 : decode cX10_undo 57 = .ok (.getfield 38, 3) := by decide +kernel
theorem dX10_undo_60 : decode cX10_undo 60 = .ok (.ireturn, 1) := by decide +kernel
set_option maxRecDepth 20000 in
theorem ggX10_type_X10_in : GoodIn wsX10_type wsX10_in := goodIn_r _ [6] (by decide +kernel) (by decide +kernel)
set_option maxRecDepth 20000 in
theorem gX10_type_X10_in : GoodIn wsX10_type (va_wsS RX10 42 yX10_in wsX10_in) := goodIn_app (goodIn_of _ (by decide +kernel)) ggX10_type_X10_in
theorem dX10_type_0 : decode cX10_type 0 = .ok (.iload_n 1, 1) := by decide +kernel
theorem dX10_type_1 : decode cX10_type 1 = .ok (.bipush 32, 2) := by decide +kernel
theorem dX10_type_3 : decode cX10_type 3 = .ok (.bipush 126, 2) := by decide +kernel
theorem dX10_type_5 : decode cX10_type 5 = .ok (.invokestatic 42, 3) := by decide +kernel
theorem dX10_type_8 : decode cX10_type 8 = .ok (.ifCond .ne 5, 3) := by decide +kernel
theorem dX10_type_11 : decode cX10_type 11 = .ok (.iconst (-1), 1) := by decide +kernel
theorem dX10_type_12 : decode cX10_type 12 = .ok (.ireturn, 1) := by decide +kernel
theorem dX10_type_13 : decode cX10_type 13 = .ok (.aload_n 0, 1) := by decide +kernel
theorem dX10_type_14 : decode cX10_type 14 = .ok (.getfield 155, 3) := by decide +kernel
theorem dX10_type_17 : decode cX10_type 17 = .ok (.bipush 80, 2) := by decide +kernel
theorem dX10_type_19 : decode cX10_type 19 = .ok (.if_icmp .ne 6, 3) := by decide +kernel
theorem dX10_type_22 : decode cX10_type 22 = .ok (.bipush (-3), 2) := by decide +kernel
theorem dX10_type_24 : decode cX10_type 24 = .ok (.ireturn, 1) := by decide +kernel
theorem dX10_type_25 : decode cX10_type 25 = .ok (.aload_n 0, 1) := by decide +kernel
theorem dX10_type_26 : decode cX10_type 26 = .ok (.getfield 19, 3) := by decide +kernel
theorem dX10_type_29 : decode cX10_type 29 = .ok (.aload_n 0, 1) := by decide +kernel
theorem dX10_type_30 : decode cX10_type 30 = .ok (.getfield 155, 3) := by decide +kernel
theorem dX10_type_33 : decode cX10_type 33 = .ok (.iload_n 1, 1) := by decide +kernel
theorem dX10_type_34 : decode cX10_type 34 = .ok (.iastore, 1) := by decide +kernel
theorem dX10_type_35 : decode cX10_type 35 = .ok (.aload_n 0, 1) := by decide +kernel
theorem dX10_type_36 : decode cX10_type 36 = .ok (.dup, 1) := by decide +kernel
theorem dX10_type_37 : decode cX10_type 37 = .ok (.getfield 155, 3) := by decide +kernel
theorem dX10_type_40 : decode cX10_type 40 = .ok (.iconst 1, 1) := by decide +kernel
theorem dX10_type_41 : decode cX10_type 41 = .ok (.iadd, 1) := by decide +kernel
theorem dX10_type_42 : decode cX10_type 42 = .ok (.putfield 155, 3) := by decide +kernel
theorem dX10_type_45 : decode cX10_type 45 = .ok (.aload_n 0, 1) := by decide +kernel
theorem dX10_type_46 : decode cX10_type 46 = .ok (.getfield 155, 3) := by decide +kernel
theorem dX10_type_49 : decode cX10_type 49 = .ok (.ireturn, 1) := by decide +kernel
theorem dX10_clearText_0 : decode cX10_clearText 0 = .ok (.aload_n 0, 1) := by decide +kernel
theorem dX10_clearText_1 : decode cX10_clearText 1 = .ok (.getfield 155, 3) := by decide +kernel
theorem dX10_clearText_4 : decode cX10_clearText 4 = .ok (.istore_n 1, 1) := by decide +kernel
theorem dX10_clearText_5 : decode cX10_clearText 5 = .ok (.aload_n 0, 1) := by decide +kernel
theorem dX10_clearText_6 : decode cX10_clearText 6 = .ok (.iconst 0, 1) := by decide +kernel
theorem dX10_clearText_7 : decode cX10_clearText 7 = .ok (.putfield 155, 3) := by decide +kernel
theorem dX10_clearText_10 : decode cX10_clearText 10 = .ok (.iload_n 1, 1) := by decide +kernel
theorem dX10_clearText_11 : decode cX10_clearText 11 = .ok (.ireturn, 1) := by decide +kernel
theorem dX10_here_0 : decode cX10_here 0 = .ok (.aload_n 0, 1) := by decide +kernel
theorem dX10_here_1 : decode cX10_here 1 = .ok (.getfield 193, 3) := by decide +kernel
theorem dX10_here_4 : decode cX10_here 4 = .ok (.aload_n 0, 1) := by decide +kernel
theorem dX10_here_5 : decode cX10_here 5 = .ok (.getfield 155, 3) := by decide +kernel
theorem dX10_here_8 : decode cX10_here 8 = .ok (.if_icmp .ge 15, 3) := by decide +kernel
theorem dX10_here_11 : decode cX10_here 11 = .ok (.aload_n 0, 1) := by decide +kernel
theorem dX10_here_12 : decode cX10_here 12 = .ok (.getfield 19, 3) := by decide +kernel
theorem dX10_here_15 : decode cX10_here 15 = .ok (.aload_n 0, 1) := by decide +kernel
theorem dX10_here_16 : decode cX10_here 16 = .ok (.getfield 193, 3) := by decide +kernel
theorem dX10_here_19 : decode cX10_here 19 = .ok (.iaload, 1) := by decide +kernel
theorem dX10_here_20 : decode cX10_here 20 = .ok (.goto 4, 3) := by decide +kernel
theorem dX10_here_23 : decode cX10_here 23 = .ok (.iconst (-1), 1) := by decide +kernel
theorem dX10_here_24 : decode cX10_here 24 = .ok (.ireturn, 1) := by decide +kernel
set_option maxRecDepth 20000 in
theorem ggX10_must_X10_here : GoodIn wsX10_must wsX10_here := goodIn_r _ [7, 2, 8, 9, 10, 11, 12, 13, 14, 15, 16, 17, 18, 19, 20, 21, 22, 23, 24] (by decide +kernel) (by decide +kernel)
set_option maxRecDepth 20000 in
theorem gX10_must_X10_here : GoodIn wsX10_must (wsV RX10 200 RX10 yX10_here wsX10_here) := goodIn_app (goodIn_of _ (by decide +kernel)) ggX10_must_X10_here
theorem dX10_must_0 : decode cX10_must 0 = .ok (.aload_n 0, 1) := by decide +kernel
theorem dX10_must_1 : decode cX10_must 1 = .ok (.aload_n 0, 1) := by decide +kernel
theorem dX10_must_2 : decode cX10_must 2 = .ok (.getfield 196, 3) := by decide +kernel
theorem dX10_must_5 : decode cX10_must 5 = .ok (.ifCond .eq 15, 3) := by decide +kernel
theorem dX10_must_8 : decode cX10_must 8 = .ok (.aload_n 0, 1) := by decide +kernel
theorem dX10_must_9 : decode cX10_must 9 = .ok (.invokevirtual 200, 3) := by decide +kernel
theorem dX10_must_12 : decode cX10_must 12 = .ok (.iload_n 1, 1) := by decide +kernel
theorem dX10_must_13 : decode cX10_must 13 = .ok (.if_icmp .ne 7, 3) := by decide +kernel
theorem dX10_must_16 : decode cX10_must 16 = .ok (.iconst 1, 1) := by decide +kernel
theorem dX10_must_17 : decode cX10_must 17 = .ok (.goto 4, 3) := by decide +kernel
theorem dX10_must_20 : decode cX10_must 20 = .ok (.iconst 0, 1) := by decide +kernel
theorem dX10_must_21 : decode cX10_must 21 = .ok (.putfield 196, 3) := by decide +kernel
theorem dX10_must_24 : decode cX10_must 24 = .ok (.aload_n 0, 1) := by decide +kernel
theorem dX10_must_25 : decode cX10_must 25 = .ok (.dup, 1) := by decide +kernel
theorem dX10_must_26 : decode cX10_must 26 = .ok (.getfield 193, 3) := by decide +kernel
theorem dX10_must_29 : decode cX10_must 29 = .ok (.iconst 1, 1) := by decide +kernel
theorem dX10_must_30 : decode cX10_must 30 = .ok (.iadd, 1) := by decide +kernel
theorem dX10_must_31 : decode cX10_must 31 = .ok (.putfield 193, 3) := by decide +kernel
theorem dX10_must_34 : decode cX10_must 34 = .ok (.return_, 1) := by decide +kernel
set_option maxRecDepth 20000 in
theorem ggX10_readNumber_X10_must : GoodIn wsX10_readNumber wsX10_must := goodIn_r _ [7, 2, 1, 8, 9, 10, 6, 11, 12, 13, 17, 18, 19, 20, 21, 22, 23, 24, 25, 26, 27, 28, 29, 30, 31] (by decide +kernel) (by decide +kernel)
set_option maxRecDepth 20000 in
theorem gX10_readNumber_X10_must : GoodIn wsX10_readNumber (wsV RX10 203 RX10 yX10_must wsX10_must) := goodIn_app (goodIn_of _ (by decide +kernel)) ggX10_readNumber_X10_must
set_option maxRecDepth 20000 in
theorem ggX10_readNumber_X10_here : GoodIn wsX10_readNumber wsX10_here := goodIn_r _ [11, 1, 12, 13, 17, 18, 19, 20, 21, 22, 23, 24, 25, 26, 27, 28, 29, 30, 31] (by decide +kernel) (by decide +kernel)
set_option maxRecDepth 20000 in
theorem gX10_readNumber_X10_here : GoodIn wsX10_readNumber (wsV RX10 200 RX10 yX10_here wsX10_here) := goodIn_app (goodIn_of _ (by decide +kernel)) ggX10_readNumber_X10_here
set_option maxRecDepth 20000 in
theorem ggX10_readNumber_X10_in : GoodIn wsX10_readNumber wsX10_in := goodIn_r _ [16] (by decide +kernel) (by decide +kernel)
set_option maxRecDepth 20000 in
theorem gX10_readNumber_X10_in : GoodIn wsX10_readNumber (va_wsS RX10 42 yX10_in wsX10_in) := goodIn_app (goodIn_of _ (by decide +kernel)) ggX10_readNumber_X10_in
theorem dX10_readNumber_0 : decode cX10_readNumber 0 = .ok (.aload_n 0, 1) := by decide +kernel
theorem dX10_readNumber_1 : decode cX10_readNumber 1 = .ok (.bipush 32, 2) := by decide +kernel
theorem dX10_readNumber_3 : decode cX10_readNumber 3 = .ok (.invokevirtual 203, 3) := by decide +kernel
theorem dX10_readNumber_6 : decode cX10_readNumber 6 = .ok (.iconst 0, 1) := by decide +kernel
theorem dX10_readNumber_7 : decode cX10_readNumber 7 = .ok (.istore_n 1, 1) := by decide +kernel
theorem dX10_readNumber_8 : decode cX10_readNumber 8 = .ok (.iconst 0, 1) := by decide +kernel
theorem dX10_readNumber_9 : decode cX10_readNumber 9 = .ok (.istore_n 2, 1) := by decide +kernel
theorem dX10_readNumber_10 : decode cX10_readNumber 10 = .ok (.iload_n 2, 1) := by decide +kernel
theorem dX10_readNumber_11 : decode cX10_readNumber 11 = .ok (.iconst 4, 1) := by decide +kernel
theorem dX10_readNumber_12 : decode cX10_readNumber 12 = .ok (.if_icmp .ge 46, 3) := by decide +kernel
theorem dX10_readNumber_15 : decode cX10_readNumber 15 = .ok (.aload_n 0, 1) := by decide +kernel
theorem dX10_readNumber_16 : decode cX10_readNumber 16 = .ok (.invokevirtual 200, 3) := by decide +kernel
theorem dX10_readNumber_19 : decode cX10_readNumber 19 = .ok (.bipush 48, 2) := by decide +kernel
theorem dX10_readNumber_21 : decode cX10_readNumber 21 = .ok (.bipush 57, 2) := by decide +kernel
theorem dX10_readNumber_23 : decode cX10_readNumber 23 = .ok (.invokestatic 42, 3) := by decide +kernel
theorem dX10_readNumber_26 : decode cX10_readNumber 26 = .ok (.ifCond .eq 32, 3) := by decide +kernel
theorem dX10_readNumber_29 : decode cX10_readNumber 29 = .ok (.bipush 10, 2) := by decide +kernel
theorem dX10_readNumber_31 : decode cX10_readNumber 31 = .ok (.iload_n 1, 1) := by decide +kernel
theorem dX10_readNumber_32 : decode cX10_readNumber 32 = .ok (.imul, 1) := by decide +kernel
theorem dX10_readNumber_33 : decode cX10_readNumber 33 = .ok (.aload_n 0, 1) := by decide +kernel
theorem dX10_readNumber_34 : decode cX10_readNumber 34 = .ok (.invokevirtual 200, 3) := by decide +kernel
theorem dX10_readNumber_37 : decode cX10_readNumber 37 = .ok (.iadd, 1) := by decide +kernel
theorem dX10_readNumber_38 : decode cX10_readNumber 38 = .ok (.bipush 48, 2) := by decide +kernel
theorem dX10_readNumber_40 : decode cX10_readNumber 40 = .ok (.isub, 1) := by decide +kernel
theorem dX10_readNumber_41 : decode cX10_readNumber 41 = .ok (.istore_n 1, 1) := by decide +kernel
theorem dX10_readNumber_42 : decode cX10_readNumber 42 = .ok (.iinc 2 1, 3) := by decide +kernel
theorem dX10_readNumber_45 : decode cX10_readNumber 45 = .ok (.aload_n 0, 1) := by decide +kernel
theorem dX10_readNumber_46 : decode cX10_readNumber 46 = .ok (.dup, 1) := by decide +kernel
theorem dX10_readNumber_47 : decode cX10_readNumber 47 = .ok (.getfield 193, 3) := by decide +kernel
theorem dX10_readNumber_50 : decode cX10_readNumber 50 = .ok (.iconst 1, 1) := by decide +kernel
theorem dX10_readNumber_51 : decode cX10_readNumber 51 = .ok (.iadd, 1) := by decide +kernel
theorem dX10_readNumber_52 : decode cX10_readNumber 52 = .ok (.putfield 193, 3) := by decide +kernel
theorem dX10_readNumber_55 : decode cX10_readNumber 55 = .ok (.goto (-45), 3) := by decide +kernel
theorem dX10_readNumber_58 : decode cX10_readNumber 58 = .ok (.aload_n 0, 1) := by decide +kernel
theorem dX10_readNumber_59 : decode cX10_readNumber 59 = .ok (.aload_n 0, 1) := by decide +kernel
theorem dX10_readNumber_60 : decode cX10_readNumber 60 = .ok (.getfield 196, 3) := by decide +kernel
theorem dX10_readNumber_63 : decode cX10_readNumber 63 = .ok (.ifCond .eq 11, 3) := by decide +kernel
theorem dX10_readNumber_66 : decode cX10_readNumber 66 = .ok (.iload_n 2, 1) := by decide +kernel
theorem dX10_readNumber_67 : decode cX10_readNumber 67 = .ok (.ifCond .le 7, 3) := by decide +kernel
theorem dX10_readNumber_70 : decode cX10_readNumber 70 = .ok (.iconst 1, 1) := by decide +kernel
theorem dX10_readNumber_71 : decode cX10_readNumber 71 = .ok (.goto 4, 3) := by decide +kernel
theorem dX10_readNumber_74 : decode cX10_readNumber 74 = .ok (.iconst 0, 1) := by decide +kernel
theorem dX10_readNumber_75 : decode cX10_readNumber 75 = .ok (.putfield 196, 3) := by decide +kernel
theorem dX10_readNumber_78 : decode cX10_readNumber 78 = .ok (.iload_n 1, 1) := by decide +kernel
theorem dX10_readNumber_79 : decode cX10_readNumber 79 = .ok (.ireturn, 1) := by decide +kernel
theorem dX10_wordOf_0 : decode cX10_wordOf 0 = .ok (.iload_n 0, 1) := by decide +kernel
theorem dX10_wordOf_1 : decode cX10_wordOf 1 = .ok (.tableswitch 63 0 5 #[39, 43, 47, 51, 55, 59], 39) := by decide +kernel
theorem dX10_wordOf_40 : decode cX10_wordOf 40 = .ok (.ldc2_w 207, 3) := by decide +kernel
theorem dX10_wordOf_43 : decode cX10_wordOf 43 = .ok (.lreturn, 1) := by decide +kernel
theorem dX10_wordOf_44 : decode cX10_wordOf 44 = .ok (.ldc2_w 209, 3) := by decide +kernel
theorem dX10_wordOf_47 : decode cX10_wordOf 47 = .ok (.lreturn, 1) := by decide +kernel
theorem dX10_wordOf_48 : decode cX10_wordOf 48 = .ok (.ldc2_w 211, 3) := by decide +kernel
theorem dX10_wordOf_51 : decode cX10_wordOf 51 = .ok (.lreturn, 1) := by decide +kernel
theorem dX10_wordOf_52 : decode cX10_wordOf 52 = .ok (.ldc2_w 213, 3) := by decide +kernel
theorem dX10_wordOf_55 : decode cX10_wordOf 55 = .ok (.lreturn, 1) := by decide +kernel
theorem dX10_wordOf_56 : decode cX10_wordOf 56 = .ok (.ldc2_w 215, 3) := by decide +kernel
theorem dX10_wordOf_59 : decode cX10_wordOf 59 = .ok (.lreturn, 1) := by decide +kernel
theorem dX10_wordOf_60 : decode cX10_wordOf 60 = .ok (.ldc2_w 217, 3) := by decide +kernel
theorem dX10_wordOf_63 : decode cX10_wordOf 63 = .ok (.lreturn, 1) := by decide +kernel
theorem dX10_wordOf_64 : decode cX10_wordOf 64 = .ok (.ldc2_w 219, 3) := by decide +kernel
theorem dX10_wordOf_67 : decode cX10_wordOf 67 = .ok (.lreturn, 1) := by decide +kernel
theorem dX10_manyOf_0 : decode cX10_manyOf 0 = .ok (.iload_n 0, 1) := by decide +kernel
theorem dX10_manyOf_1 : decode cX10_manyOf 1 = .ok (.iconst 2, 1) := by decide +kernel
theorem dX10_manyOf_2 : decode cX10_manyOf 2 = .ok (.if_icmp .ge 7, 3) := by decide +kernel
theorem dX10_manyOf_5 : decode cX10_manyOf 5 = .ok (.iconst 3, 1) := by decide +kernel
theorem dX10_manyOf_6 : decode cX10_manyOf 6 = .ok (.goto 27, 3) := by decide +kernel
theorem dX10_manyOf_9 : decode cX10_manyOf 9 = .ok (.iload_n 0, 1) := by decide +kernel
theorem dX10_manyOf_10 : decode cX10_manyOf 10 = .ok (.iconst 2, 1) := by decide +kernel
theorem dX10_manyOf_11 : decode cX10_manyOf 11 = .ok (.if_icmp .eq 8, 3) := by decide +kernel
theorem dX10_manyOf_14 : decode cX10_manyOf 14 = .ok (.iload_n 0, 1) := by decide +kernel
theorem dX10_manyOf_15 : decode cX10_manyOf 15 = .ok (.iconst 4, 1) := by decide +kernel
theorem dX10_manyOf_16 : decode cX10_manyOf 16 = .ok (.if_icmp .ne 7, 3) := by decide +kernel
theorem dX10_manyOf_19 : decode cX10_manyOf 19 = .ok (.iconst 2, 1) := by decide +kernel
theorem dX10_manyOf_20 : decode cX10_manyOf 20 = .ok (.goto 13, 3) := by decide +kernel
theorem dX10_manyOf_23 : decode cX10_manyOf 23 = .ok (.iload_n 0, 1) := by decide +kernel
theorem dX10_manyOf_24 : decode cX10_manyOf 24 = .ok (.iconst 3, 1) := by decide +kernel
theorem dX10_manyOf_25 : decode cX10_manyOf 25 = .ok (.if_icmp .ne 7, 3) := by decide +kernel
theorem dX10_manyOf_28 : decode cX10_manyOf 28 = .ok (.iconst 5, 1) := by decide +kernel
theorem dX10_manyOf_29 : decode cX10_manyOf 29 = .ok (.goto 4, 3) := by decide +kernel
theorem dX10_manyOf_32 : decode cX10_manyOf 32 = .ok (.iconst 1, 1) := by decide +kernel
theorem dX10_manyOf_33 : decode cX10_manyOf 33 = .ok (.ireturn, 1) := by decide +kernel
set_option maxRecDepth 20000 in
theorem ggX10_readWord_X10_here : GoodIn wsX10_readWord wsX10_here := goodIn_r _ [6, 1, 7, 8, 22, 23, 24, 25, 26, 27, 28, 29, 30, 31, 32, 33, 34, 35, 36] (by decide +kernel) (by decide +kernel)
set_option maxRecDepth 20000 in
theorem gX10_readWord_X10_here : GoodIn wsX10_readWord (wsV RX10 200 RX10 yX10_here wsX10_here) := goodIn_app (goodIn_of _ (by decide +kernel)) ggX10_readWord_X10_here
set_option maxRecDepth 20000 in
theorem ggX10_readWord_X10_in : GoodIn wsX10_readWord wsX10_in := goodIn_r _ [11] (by decide +kernel) (by decide +kernel)
set_option maxRecDepth 20000 in
theorem gX10_readWord_X10_in : GoodIn wsX10_readWord (va_wsS RX10 42 yX10_in wsX10_in) := goodIn_app (goodIn_of _ (by decide +kernel)) ggX10_readWord_X10_in
set_option maxRecDepth 20000 in
theorem ggX10_readWord_X10_wordOf : GoodIn wsX10_readWord wsX10_wordOf := goodIn_r _ [14, 15, 16, 17, 18, 19, 20, 21] (by decide +kernel) (by decide +kernel)
set_option maxRecDepth 20000 in
theorem gX10_readWord_X10_wordOf : GoodIn wsX10_readWord (va_wsS RX10 221 yX10_wordOf wsX10_wordOf) := goodIn_app (goodIn_of _ (by decide +kernel)) ggX10_readWord_X10_wordOf
theorem dX10_readWord_0 : decode cX10_readWord 0 = .ok (.lconst 0, 1) := by decide +kernel
theorem dX10_readWord_1 : decode cX10_readWord 1 = .ok (.lstore_n 1, 1) := by decide +kernel
theorem dX10_readWord_2 : decode cX10_readWord 2 = .ok (.iconst 0, 1) := by decide +kernel
theorem dX10_readWord_3 : decode cX10_readWord 3 = .ok (.istore_n 3, 1) := by decide +kernel
theorem dX10_readWord_4 : decode cX10_readWord 4 = .ok (.iload_n 3, 1) := by decide +kernel
theorem dX10_readWord_5 : decode cX10_readWord 5 = .ok (.iconst 5, 1) := by decide +kernel
theorem dX10_readWord_6 : decode cX10_readWord 6 = .ok (.if_icmp .ge 44, 3) := by decide +kernel
theorem dX10_readWord_9 : decode cX10_readWord 9 = .ok (.aload_n 0, 1) := by decide +kernel
theorem dX10_readWord_10 : decode cX10_readWord 10 = .ok (.invokevirtual 200, 3) := by decide +kernel
theorem dX10_readWord_13 : decode cX10_readWord 13 = .ok (.bipush 97, 2) := by decide +kernel
theorem dX10_readWord_15 : decode cX10_readWord 15 = .ok (.bipush 122, 2) := by decide +kernel
theorem dX10_readWord_17 : decode cX10_readWord 17 = .ok (.invokestatic 42, 3) := by decide +kernel
theorem dX10_readWord_20 : decode cX10_readWord 20 = .ok (.ifCond .eq 30, 3) := by decide +kernel
theorem dX10_readWord_23 : decode cX10_readWord 23 = .ok (.lload_n 1, 1) := by decide +kernel
theorem dX10_readWord_24 : decode cX10_readWord 24 = .ok (.bipush 8, 2) := by decide +kernel
theorem dX10_readWord_26 : decode cX10_readWord 26 = .ok (.lshl, 1) := by decide +kernel
theorem dX10_readWord_27 : decode cX10_readWord 27 = .ok (.aload_n 0, 1) := by decide +kernel
theorem dX10_readWord_28 : decode cX10_readWord 28 = .ok (.invokevirtual 200, 3) := by decide +kernel
theorem dX10_readWord_31 : decode cX10_readWord 31 = .ok (.i2l, 1) := by decide +kernel
theorem dX10_readWord_32 : decode cX10_readWord 32 = .ok (.lor, 1) := by decide +kernel
theorem dX10_readWord_33 : decode cX10_readWord 33 = .ok (.lstore_n 1, 1) := by decide +kernel
theorem dX10_readWord_34 : decode cX10_readWord 34 = .ok (.iinc 3 1, 3) := by decide +kernel
theorem dX10_readWord_37 : decode cX10_readWord 37 = .ok (.aload_n 0, 1) := by decide +kernel
theorem dX10_readWord_38 : decode cX10_readWord 38 = .ok (.dup, 1) := by decide +kernel
theorem dX10_readWord_39 : decode cX10_readWord 39 = .ok (.getfield 193, 3) := by decide +kernel
theorem dX10_readWord_42 : decode cX10_readWord 42 = .ok (.iconst 1, 1) := by decide +kernel
theorem dX10_readWord_43 : decode cX10_readWord 43 = .ok (.iadd, 1) := by decide +kernel
theorem dX10_readWord_44 : decode cX10_readWord 44 = .ok (.putfield 193, 3) := by decide +kernel
theorem dX10_readWord_47 : decode cX10_readWord 47 = .ok (.goto (-43), 3) := by decide +kernel
theorem dX10_readWord_50 : decode cX10_readWord 50 = .ok (.iconst 0, 1) := by decide +kernel
theorem dX10_readWord_51 : decode cX10_readWord 51 = .ok (.istore 4, 2) := by decide +kernel
theorem dX10_readWord_53 : decode cX10_readWord 53 = .ok (.iload 4, 2) := by decide +kernel
theorem dX10_readWord_55 : decode cX10_readWord 55 = .ok (.bipush 7, 2) := by decide +kernel
theorem dX10_readWord_57 : decode cX10_readWord 57 = .ok (.if_icmp .ge 22, 3) := by decide +kernel
theorem dX10_readWord_60 : decode cX10_readWord 60 = .ok (.iload 4, 2) := by decide +kernel
theorem dX10_readWord_62 : decode cX10_readWord 62 = .ok (.invokestatic 221, 3) := by decide +kernel
theorem dX10_readWord_65 : decode cX10_readWord 65 = .ok (.lload_n 1, 1) := by decide +kernel
theorem dX10_readWord_66 : decode cX10_readWord 66 = .ok (.lcmp, 1) := by decide +kernel
theorem dX10_readWord_67 : decode cX10_readWord 67 = .ok (.ifCond .ne 6, 3) := by decide +kernel
theorem dX10_readWord_70 : decode cX10_readWord 70 = .ok (.iload 4, 2) := by decide +kernel
theorem dX10_readWord_72 : decode cX10_readWord 72 = .ok (.ireturn, 1) := by decide +kernel
theorem dX10_readWord_73 : decode cX10_readWord 73 = .ok (.iinc 4 1, 3) := by decide +kernel
theorem dX10_readWord_76 : decode cX10_readWord 76 = .ok (.goto (-23), 3) := by decide +kernel
theorem dX10_readWord_79 : decode cX10_readWord 79 = .ok (.iconst (-1), 1) := by decide +kernel
theorem dX10_readWord_80 : decode cX10_readWord 80 = .ok (.ireturn, 1) := by decide +kernel
set_option maxRecDepth 20000 in
theorem ggX10_command_X10_readWord : GoodIn wsX10_command wsX10_readWord := goodIn_r _ [7, 8, 9, 10, 11, 6, 12, 13, 14, 15, 16, 17, 18, 19, 20, 21, 22, 23, 24, 25, 26, 27, 124, 125, 126, 127, 128, 129, 130, 131, 132, 133, 134, 135, 136, 137, 138] (by decide +kernel) (by decide +kernel)
set_option maxRecDepth 20000 in
theorem gX10_command_X10_readWord : GoodIn wsX10_command (wsV RX10 225 RX10 yX10_readWord wsX10_readWord) := goodIn_app (goodIn_of _ (by decide +kernel)) ggX10_command_X10_readWord
set_option maxRecDepth 20000 in
theorem ggX10_command_X10_manyOf : GoodIn wsX10_command wsX10_manyOf := goodIn_r _ [30] (by decide +kernel) (by decide +kernel)
set_option maxRecDepth 20000 in
theorem gX10_command_X10_manyOf : GoodIn wsX10_command (va_wsS RX10 228 yX10_manyOf wsX10_manyOf) := goodIn_app (goodIn_of _ (by decide +kernel)) ggX10_command_X10_manyOf
set_option maxRecDepth 20000 in
theorem ggX10_command_X10_readNumber : GoodIn wsX10_command wsX10_readNumber := goodIn_r _ [34, 8, 1, 35, 36, 37, 6, 38, 9, 10, 11, 12, 13, 14, 15, 16, 17, 124, 125, 126, 127, 128, 129, 130, 131, 132, 133, 134, 135, 136, 137, 138] (by decide +kernel) (by decide +kernel)
set_option maxRecDepth 20000 in
theorem gX10_command_X10_readNumber : GoodIn wsX10_command (wsV RX10 231 RX10 yX10_readNumber wsX10_readNumber) := goodIn_app (goodIn_of _ (by decide +kernel)) ggX10_command_X10_readNumber
set_option maxRecDepth 20000 in
theorem ggX10_command_X10_must : GoodIn wsX10_command wsX10_must := goodIn_r _ [38, 1, 8, 9, 10, 11, 6, 12, 13, 14, 124, 125, 126, 127, 128, 129, 130, 131, 132, 133, 134, 135, 136, 137, 138] (by decide +kernel) (by decide +kernel)
set_option maxRecDepth 20000 in
theorem gX10_command_X10_must : GoodIn wsX10_command (wsV RX10 203 RX10 yX10_must wsX10_must) := goodIn_app (goodIn_of _ (by decide +kernel)) ggX10_command_X10_must
set_option maxRecDepth 20000 in
theorem ggX10_command_X10_issues : GoodIn wsX10_command wsX10_issues := goodIn_r _ [42, 43, 44, 45, 46, 6, 47, 15, 16, 17, 48, 49, 50, 51, 52, 53, 54, 55, 56, 57, 58, 59, 60, 61, 62, 63, 64, 65, 66, 67, 124, 125, 126, 127, 128, 129, 130, 131, 132, 133, 134, 135, 136, 137, 138] (by decide +kernel) (by decide +kernel)
set_option maxRecDepth 20000 in
theorem gX10_command_X10_issues : GoodIn wsX10_command (wsV RX10 117 RX10 yX10_issues wsX10_issues) := goodIn_app (goodIn_of _ (by decide +kernel)) ggX10_command_X10_issues
set_option maxRecDepth 20000 in
theorem ggX10_command_X10_splits : GoodIn wsX10_command wsX10_splits := goodIn_r _ [71, 72, 73, 74, 6, 75, 15, 16, 17, 60, 61, 62, 63, 43, 44, 45, 46, 47, 52, 53, 54, 55, 56, 57, 58, 59, 76, 77, 78, 79, 64, 65, 66, 67, 124, 125, 126, 127, 128, 129, 130, 131, 132, 133, 134, 135, 136, 137, 138] (by decide +kernel) (by decide +kernel)
set_option maxRecDepth 20000 in
theorem gX10_command_X10_splits : GoodIn wsX10_command (wsV RX10 120 RX10 yX10_splits wsX10_splits) := goodIn_app (goodIn_of _ (by decide +kernel)) ggX10_command_X10_splits
set_option maxRecDepth 20000 in
theorem ggX10_command_X10_buys : GoodIn wsX10_command wsX10_buys := goodIn_r _ [83, 43, 72, 73, 74, 6, 75, 15, 16, 17, 60, 61, 62, 63, 52, 53, 54, 55, 76, 77, 78, 79, 124, 125, 126, 127, 128, 129, 130, 131, 132, 133, 134, 135, 136, 137, 138] (by decide +kernel) (by decide +kernel)
set_option maxRecDepth 20000 in
theorem gX10_command_X10_buys : GoodIn wsX10_command (wsV RX10 123 RX10 yX10_buys wsX10_buys) := goodIn_app (goodIn_of _ (by decide +kernel)) ggX10_command_X10_buys
set_option maxRecDepth 20000 in
theorem ggX10_command_X10_grants : GoodIn wsX10_command wsX10_grants := goodIn_r _ [87, 43, 44, 45, 46, 6, 47, 15, 16, 17, 88, 89, 90, 91, 124, 125, 126, 127, 128, 129, 130, 131, 132, 133, 134, 135, 136, 137, 138] (by decide +kernel) (by decide +kernel)
set_option maxRecDepth 20000 in
theorem gX10_command_X10_grants : GoodIn wsX10_command (wsV RX10 126 RX10 yX10_grants wsX10_grants) := goodIn_app (goodIn_of _ (by decide +kernel)) ggX10_command_X10_grants
set_option maxRecDepth 20000 in
theorem ggX10_command_X10_takes : GoodIn wsX10_command wsX10_takes := goodIn_r _ [95, 43, 96, 97, 98, 6, 99, 15, 16, 17, 52, 53, 54, 55, 100, 101, 102, 103, 104, 105, 106, 107, 88, 89, 90, 91, 108, 109, 110, 111, 56, 57, 58, 59, 60, 61, 62, 63, 64, 65, 66, 67, 124, 125, 126, 127, 128, 129, 130, 131, 132, 133, 134, 135, 136, 137, 138] (by decide +kernel) (by decide +kernel)
set_option maxRecDepth 20000 in
theorem gX10_command_X10_takes : GoodIn wsX10_command (wsV RX10 129 RX10 yX10_takes wsX10_takes) := goodIn_app (goodIn_of _ (by decide +kernel)) ggX10_command_X10_takes
set_option maxRecDepth 20000 in
theorem ggX10_command_X10_leaves : GoodIn wsX10_command wsX10_leaves := goodIn_r _ [115, 43, 44, 45, 46, 6, 47, 15, 16, 17, 88, 89, 90, 91, 116, 117, 118, 119, 104, 105, 106, 107, 100, 101, 102, 103, 108, 109, 110, 111, 124, 125, 126, 127, 128, 129, 130, 131, 132, 133, 134, 135, 136, 137, 138] (by decide +kernel) (by decide +kernel)
set_option maxRecDepth 20000 in
theorem gX10_command_X10_leaves : GoodIn wsX10_command (wsV RX10 132 RX10 yX10_leaves wsX10_leaves) := goodIn_app (goodIn_of _ (by decide +kernel)) ggX10_command_X10_leaves
set_option maxRecDepth 20000 in
theorem ggX10_command_X10_passes : GoodIn wsX10_command wsX10_passes := goodIn_r _ [123, 43, 15, 16, 6, 17, 124, 125, 126, 127, 128, 129, 130, 131, 132, 133, 134, 135, 136, 137, 138] (by decide +kernel) (by decide +kernel)
set_option maxRecDepth 20000 in
theorem gX10_command_X10_passes : GoodIn wsX10_command (wsV RX10 135 RX10 yX10_passes wsX10_passes) := goodIn_app (goodIn_of _ (by decide +kernel)) ggX10_command_X10_passes
theorem dX10_command_0 : decode cX10_command 0 = .ok (.aload_n 0, 1) := by decide +kernel
theorem dX10_command_1 : decode cX10_command 1 = .ok (.invokevirtual 225, 3) := by decide +kernel
theorem dX10_command_4 : decode cX10_command 4 = .ok (.istore_n 1, 1) := by decide +kernel
theorem dX10_command_5 : decode cX10_command 5 = .ok (.aload_n 0, 1) := by decide +kernel
theorem dX10_command_6 : decode cX10_command 6 = .ok (.iload_n 1, 1) := by decide +kernel
theorem dX10_command_7 : decode cX10_command 7 = .ok (.ifCond .lt 7, 3) := by decide +kernel
theorem dX10_command_10 : decode cX10_command 10 = .ok (.iconst 1, 1) := by decide +kernel
theorem dX10_command_11 : decode cX10_command 11 = .ok (.goto 4, 3) := by decide +kernel
theorem dX10_command_14 : decode cX10_command 14 = .ok (.iconst 0, 1) := by decide +kernel
theorem dX10_command_15 : decode cX10_command 15 = .ok (.putfield 196, 3) := by decide +kernel
theorem dX10_command_18 : decode cX10_command 18 = .ok (.iconst 0, 1) := by decide +kernel
theorem dX10_command_19 : decode cX10_command 19 = .ok (.istore_n 2, 1) := by decide +kernel
theorem dX10_command_20 : decode cX10_command 20 = .ok (.iload_n 2, 1) := by decide +kernel
theorem dX10_command_21 : decode cX10_command 21 = .ok (.iload_n 1, 1) := by decide +kernel
theorem dX10_command_22 : decode cX10_command 22 = .ok (.invokestatic 228, 3) := by decide +kernel
theorem dX10_command_25 : decode cX10_command 25 = .ok (.if_icmp .ge 19, 3) := by decide +kernel
theorem dX10_command_28 : decode cX10_command 28 = .ok (.aload_n 0, 1) := by decide +kernel
theorem dX10_command_29 : decode cX10_command 29 = .ok (.getfield 35, 3) := by decide +kernel
theorem dX10_command_32 : decode cX10_command 32 = .ok (.iload_n 2, 1) := by decide +kernel
theorem dX10_command_33 : decode cX10_command 33 = .ok (.aload_n 0, 1) := by decide +kernel
theorem dX10_command_34 : decode cX10_command 34 = .ok (.invokevirtual 231, 3) := by decide +kernel
theorem dX10_command_37 : decode cX10_command 37 = .ok (.iastore, 1) := by decide +kernel
theorem dX10_command_38 : decode cX10_command 38 = .ok (.iinc 2 1, 3) := by decide +kernel
theorem dX10_command_41 : decode cX10_command 41 = .ok (.goto (-21), 3) := by decide +kernel
theorem dX10_command_44 : decode cX10_command 44 = .ok (.aload_n 0, 1) := by decide +kernel
theorem dX10_command_45 : decode cX10_command 45 = .ok (.bipush 59, 2) := by decide +kernel
theorem dX10_command_47 : decode cX10_command 47 = .ok (.invokevirtual 203, 3) := by decide +kernel
theorem dX10_command_50 : decode cX10_command 50 = .ok (.aload_n 0, 1) := by decide +kernel
theorem dX10_command_51 : decode cX10_command 51 = .ok (.getfield 196, 3) := by decide +kernel
theorem dX10_command_54 : decode cX10_command 54 = .ok (.ifCond .ne 5, 3) := by decide +kernel
theorem dX10_command_57 : decode cX10_command 57 = .ok (.iconst 0, 1) := by decide +kernel
theorem dX10_command_58 : decode cX10_command 58 = .ok (.ireturn, 1) := by decide +kernel
theorem dX10_command_59 : decode cX10_command 59 = .ok (.iload_n 1, 1) := by decide +kernel
theorem dX10_command_60 : decode cX10_command 60 = .ok (.tableswitch 166 0 5 #[40, 63, 86, 103, 138, 155], 40) := by decide +kernel
theorem dX10_command_100 : decode cX10_command 100 = .ok (.aload_n 0, 1) := by decide +kernel
theorem dX10_command_101 : decode cX10_command 101 = .ok (.aload_n 0, 1) := by decide +kernel
theorem dX10_command_102 : decode cX10_command 102 = .ok (.getfield 35, 3) := by decide +kernel
theorem dX10_command_105 : decode cX10_command 105 = .ok (.iconst 0, 1) := by decide +kernel
theorem dX10_command_106 : decode cX10_command 106 = .ok (.iaload, 1) := by decide +kernel
theorem dX10_command_107 : decode cX10_command 107 = .ok (.aload_n 0, 1) := by decide +kernel
theorem dX10_command_108 : decode cX10_command 108 = .ok (.getfield 35, 3) := by decide +kernel
theorem dX10_command_111 : decode cX10_command 111 = .ok (.iconst 1, 1) := by decide +kernel
theorem dX10_command_112 : decode cX10_command 112 = .ok (.iaload, 1) := by decide +kernel
theorem dX10_command_113 : decode cX10_command 113 = .ok (.aload_n 0, 1) := by decide +kernel
theorem dX10_command_114 : decode cX10_command 114 = .ok (.getfield 35, 3) := by decide +kernel
theorem dX10_command_117 : decode cX10_command 117 = .ok (.iconst 2, 1) := by decide +kernel
theorem dX10_command_118 : decode cX10_command 118 = .ok (.iaload, 1) := by decide +kernel
theorem dX10_command_119 : decode cX10_command 119 = .ok (.invokevirtual 117, 3) := by decide +kernel
theorem dX10_command_122 : decode cX10_command 122 = .ok (.ireturn, 1) := by decide +kernel
theorem dX10_command_123 : decode cX10_command 123 = .ok (.aload_n 0, 1) := by decide +kernel
theorem dX10_command_124 : decode cX10_command 124 = .ok (.aload_n 0, 1) := by decide +kernel
theorem dX10_command_125 : decode cX10_command 125 = .ok (.getfield 35, 3) := by decide +kernel
theorem dX10_command_128 : decode cX10_command 128 = .ok (.iconst 0, 1) := by decide +kernel
theorem dX10_command_129 : decode cX10_command 129 = .ok (.iaload, 1) := by decide +kernel
theorem dX10_command_130 : decode cX10_command 130 = .ok (.aload_n 0, 1) := by decide +kernel
theorem dX10_command_131 : decode cX10_command 131 = .ok (.getfield 35, 3) := by decide +kernel
theorem dX10_command_134 : decode cX10_command 134 = .ok (.iconst 1, 1) := by decide +kernel
theorem dX10_command_135 : decode cX10_command 135 = .ok (.iaload, 1) := by decide +kernel
theorem dX10_command_136 : decode cX10_command 136 = .ok (.aload_n 0, 1) := by decide +kernel
theorem dX10_command_137 : decode cX10_command 137 = .ok (.getfield 35, 3) := by decide +kernel
theorem dX10_command_140 : decode cX10_command 140 = .ok (.iconst 2, 1) := by decide +kernel
theorem dX10_command_141 : decode cX10_command 141 = .ok (.iaload, 1) := by decide +kernel
theorem dX10_command_142 : decode cX10_command 142 = .ok (.invokevirtual 120, 3) := by decide +kernel
theorem dX10_command_145 : decode cX10_command 145 = .ok (.ireturn, 1) := by decide +kernel
theorem dX10_command_146 : decode cX10_command 146 = .ok (.aload_n 0, 1) := by decide +kernel
theorem dX10_command_147 : decode cX10_command 147 = .ok (.aload_n 0, 1) := by decide +kernel
theorem dX10_command_148 : decode cX10_command 148 = .ok (.getfield 35, 3) := by decide +kernel
theorem dX10_command_151 : decode cX10_command 151 = .ok (.iconst 0, 1) := by decide +kernel
theorem dX10_command_152 : decode cX10_command 152 = .ok (.iaload, 1) := by decide +kernel
theorem dX10_command_153 : decode cX10_command 153 = .ok (.aload_n 0, 1) := by decide +kernel
theorem dX10_command_154 : decode cX10_command 154 = .ok (.getfield 35, 3) := by decide +kernel
theorem dX10_command_157 : decode cX10_command 157 = .ok (.iconst 1, 1) := by decide +kernel
theorem dX10_command_158 : decode cX10_command 158 = .ok (.iaload, 1) := by decide +kernel
theorem dX10_command_159 : decode cX10_command 159 = .ok (.invokevirtual 123, 3) := by decide +kernel
theorem dX10_command_162 : decode cX10_command 162 = .ok (.ireturn, 1) := by decide +kernel
theorem dX10_command_163 : decode cX10_command 163 = .ok (.aload_n 0, 1) := by decide +kernel
theorem dX10_command_164 : decode cX10_command 164 = .ok (.aload_n 0, 1) := by decide +kernel
theorem dX10_command_165 : decode cX10_command 165 = .ok (.getfield 35, 3) := by decide +kernel
theorem dX10_command_168 : decode cX10_command 168 = .ok (.iconst 0, 1) := by decide +kernel
theorem dX10_command_169 : decode cX10_command 169 = .ok (.iaload, 1) := by decide +kernel
theorem dX10_command_170 : decode cX10_command 170 = .ok (.aload_n 0, 1) := by decide +kernel
theorem dX10_command_171 : decode cX10_command 171 = .ok (.getfield 35, 3) := by decide +kernel
theorem dX10_command_174 : decode cX10_command 174 = .ok (.iconst 1, 1) := by decide +kernel
theorem dX10_command_175 : decode cX10_command 175 = .ok (.iaload, 1) := by decide +kernel
theorem dX10_command_176 : decode cX10_command 176 = .ok (.aload_n 0, 1) := by decide +kernel
theorem dX10_command_177 : decode cX10_command 177 = .ok (.getfield 35, 3) := by decide +kernel
theorem dX10_command_180 : decode cX10_command 180 = .ok (.iconst 2, 1) := by decide +kernel
theorem dX10_command_181 : decode cX10_command 181 = .ok (.iaload, 1) := by decide +kernel
theorem dX10_command_182 : decode cX10_command 182 = .ok (.aload_n 0, 1) := by decide +kernel
theorem dX10_command_183 : decode cX10_command 183 = .ok (.getfield 35, 3) := by decide +kernel
theorem dX10_command_186 : decode cX10_command 186 = .ok (.iconst 3, 1) := by decide +kernel
theorem dX10_command_187 : decode cX10_command 187 = .ok (.iaload, 1) := by decide +kernel
theorem dX10_command_188 : decode cX10_command 188 = .ok (.aload_n 0, 1) := by decide +kernel
theorem dX10_command_189 : decode cX10_command 189 = .ok (.getfield 35, 3) := by decide +kernel
theorem dX10_command_192 : decode cX10_command 192 = .ok (.iconst 4, 1) := by decide +kernel
theorem dX10_command_193 : decode cX10_command 193 = .ok (.iaload, 1) := by decide +kernel
theorem dX10_command_194 : decode cX10_command 194 = .ok (.invokevirtual 126, 3) := by decide +kernel
theorem dX10_command_197 : decode cX10_command 197 = .ok (.ireturn, 1) := by decide +kernel
theorem dX10_command_198 : decode cX10_command 198 = .ok (.aload_n 0, 1) := by decide +kernel
theorem dX10_command_199 : decode cX10_command 199 = .ok (.aload_n 0, 1) := by decide +kernel
theorem dX10_command_200 : decode cX10_command 200 = .ok (.getfield 35, 3) := by decide +kernel
theorem dX10_command_203 : decode cX10_command 203 = .ok (.iconst 0, 1) := by decide +kernel
theorem dX10_command_204 : decode cX10_command 204 = .ok (.iaload, 1) := by decide +kernel
theorem dX10_command_205 : decode cX10_command 205 = .ok (.aload_n 0, 1) := by decide +kernel
theorem dX10_command_206 : decode cX10_command 206 = .ok (.getfield 35, 3) := by decide +kernel
theorem dX10_command_209 : decode cX10_command 209 = .ok (.iconst 1, 1) := by decide +kernel
theorem dX10_command_210 : decode cX10_command 210 = .ok (.iaload, 1) := by decide +kernel
theorem dX10_command_211 : decode cX10_command 211 = .ok (.invokevirtual 129, 3) := by decide +kernel
theorem dX10_command_214 : decode cX10_command 214 = .ok (.ireturn, 1) := by decide +kernel
theorem dX10_command_215 : decode cX10_command 215 = .ok (.aload_n 0, 1) := by decide +kernel
theorem dX10_command_216 : decode cX10_command 216 = .ok (.aload_n 0, 1) := by decide +kernel
theorem dX10_command_217 : decode cX10_command 217 = .ok (.getfield 35, 3) := by decide +kernel
theorem dX10_command_220 : decode cX10_command 220 = .ok (.iconst 0, 1) := by decide +kernel
theorem dX10_command_221 : decode cX10_command 221 = .ok (.iaload, 1) := by decide +kernel
theorem dX10_command_222 : decode cX10_command 222 = .ok (.invokevirtual 132, 3) := by decide +kernel
theorem dX10_command_225 : decode cX10_command 225 = .ok (.ireturn, 1) := by decide +kernel
theorem dX10_command_226 : decode cX10_command 226 = .ok (.aload_n 0, 1) := by decide +kernel
theorem dX10_command_227 : decode cX10_command 227 = .ok (.aload_n 0, 1) := by decide +kernel
theorem dX10_command_228 : decode cX10_command 228 = .ok (.getfield 35, 3) := by decide +kernel
theorem dX10_command_231 : decode cX10_command 231 = .ok (.iconst 0, 1) := by decide +kernel
theorem dX10_command_232 : decode cX10_command 232 = .ok (.iaload, 1) := by decide +kernel
theorem dX10_command_233 : decode cX10_command 233 = .ok (.invokevirtual 135, 3) := by decide +kernel
theorem dX10_command_236 : decode cX10_command 236 = .ok (.ireturn, 1) := by decide +kernel
set_option maxRecDepth 20000 in
theorem ggX10_does_X10_command : GoodIn wsX10_does wsX10_command := goodIn_r _ [10, 4, 11, 12, 13, 14, 9, 15, 1, 16, 17, 18, 19, 2, 20, 21, 22, 23, 24, 25, 26, 27, 28, 29, 30, 31, 32, 33, 34, 35, 36, 37, 38, 39, 40, 41, 42, 43, 44, 45, 46, 47, 48, 49, 50, 51, 52, 53, 54, 55, 56, 57, 58, 59, 60, 61, 62, 63, 64, 65, 66, 67, 68, 69, 70, 71, 72, 73, 74, 75, 76, 77, 78, 79, 80, 81, 82, 83, 84, 85, 86, 87, 88, 89, 90, 91, 92, 93, 94, 95, 96, 97, 98, 99, 100, 101, 102, 103, 104, 105, 106, 107, 108, 109, 110, 111, 112, 113, 114, 115, 116, 117, 118, 119, 120, 121, 122, 123, 124, 125, 126, 127, 128, 129, 130, 131, 132, 133, 134, 135, 136, 137, 138, 139, 140, 141, 142, 143, 144] (by decide +kernel) (by decide +kernel)
set_option maxRecDepth 20000 in
theorem gX10_does_X10_command : GoodIn wsX10_does (wsV RX10 234 RX10 yX10_command wsX10_command) := goodIn_app (goodIn_of _ (by decide +kernel)) ggX10_does_X10_command
theorem dX10_does_0 : decode cX10_does 0 = .ok (.aload_n 0, 1) := by decide +kernel
theorem dX10_does_1 : decode cX10_does 1 = .ok (.iconst 0, 1) := by decide +kernel
theorem dX10_does_2 : decode cX10_does 2 = .ok (.putfield 193, 3) := by decide +kernel
theorem dX10_does_5 : decode cX10_does 5 = .ok (.iconst 0, 1) := by decide +kernel
theorem dX10_does_6 : decode cX10_does 6 = .ok (.istore_n 1, 1) := by decide +kernel
theorem dX10_does_7 : decode cX10_does 7 = .ok (.aload_n 0, 1) := by decide +kernel
theorem dX10_does_8 : decode cX10_does 8 = .ok (.getfield 193, 3) := by decide +kernel
theorem dX10_does_11 : decode cX10_does 11 = .ok (.aload_n 0, 1) := by decide +kernel
theorem dX10_does_12 : decode cX10_does 12 = .ok (.getfield 155, 3) := by decide +kernel
theorem dX10_does_15 : decode cX10_does 15 = .ok (.if_icmp .ge 58, 3) := by decide +kernel
theorem dX10_does_18 : decode cX10_does 18 = .ok (.aload_n 0, 1) := by decide +kernel
theorem dX10_does_19 : decode cX10_does 19 = .ok (.getfield 193, 3) := by decide +kernel
theorem dX10_does_22 : decode cX10_does 22 = .ok (.istore_n 2, 1) := by decide +kernel
theorem dX10_does_23 : decode cX10_does 23 = .ok (.aload_n 0, 1) := by decide +kernel
theorem dX10_does_24 : decode cX10_does 24 = .ok (.aload_n 0, 1) := by decide +kernel
theorem dX10_does_25 : decode cX10_does 25 = .ok (.invokevirtual 234, 3) := by decide +kernel
theorem dX10_does_28 : decode cX10_does 28 = .ok (.putfield 237, 3) := by decide +kernel
theorem dX10_does_31 : decode cX10_does 31 = .ok (.aload_n 0, 1) := by decide +kernel
theorem dX10_does_32 : decode cX10_does 32 = .ok (.aload_n 0, 1) := by decide +kernel
theorem dX10_does_33 : decode cX10_does 33 = .ok (.getfield 196, 3) := by decide +kernel
theorem dX10_does_36 : decode cX10_does 36 = .ok (.ifCond .ne 7, 3) := by decide +kernel
theorem dX10_does_39 : decode cX10_does 39 = .ok (.iconst 1, 1) := by decide +kernel
theorem dX10_does_40 : decode cX10_does 40 = .ok (.goto 15, 3) := by decide +kernel
theorem dX10_does_43 : decode cX10_does 43 = .ok (.aload_n 0, 1) := by decide +kernel
theorem dX10_does_44 : decode cX10_does 44 = .ok (.getfield 237, 3) := by decide +kernel
theorem dX10_does_47 : decode cX10_does 47 = .ok (.ifCond .ge 7, 3) := by decide +kernel
theorem dX10_does_50 : decode cX10_does 50 = .ok (.iconst 2, 1) := by decide +kernel
theorem dX10_does_51 : decode cX10_does 51 = .ok (.goto 4, 3) := by decide +kernel
theorem dX10_does_54 : decode cX10_does 54 = .ok (.iconst 0, 1) := by decide +kernel
theorem dX10_does_55 : decode cX10_does 55 = .ok (.putfield 240, 3) := by decide +kernel
theorem dX10_does_58 : decode cX10_does 58 = .ok (.aload_n 0, 1) := by decide +kernel
theorem dX10_does_59 : decode cX10_does 59 = .ok (.getfield 240, 3) := by decide +kernel
theorem dX10_does_62 : decode cX10_does 62 = .ok (.ifCond .le 5, 3) := by decide +kernel
theorem dX10_does_65 : decode cX10_does 65 = .ok (.iload_n 2, 1) := by decide +kernel
theorem dX10_does_66 : decode cX10_does 66 = .ok (.ireturn, 1) := by decide +kernel
theorem dX10_does_67 : decode cX10_does 67 = .ok (.iinc 1 1, 3) := by decide +kernel
theorem dX10_does_70 : decode cX10_does 70 = .ok (.goto (-63), 3) := by decide +kernel
theorem dX10_does_73 : decode cX10_does 73 = .ok (.iconst (-1), 1) := by decide +kernel
theorem dX10_does_74 : decode cX10_does 74 = .ok (.iload_n 1, 1) := by decide +kernel
theorem dX10_does_75 : decode cX10_does 75 = .ok (.isub, 1) := by decide +kernel
theorem dX10_does_76 : decode cX10_does 76 = .ok (.ireturn, 1) := by decide +kernel
set_option maxRecDepth 20000 in
theorem ggX10_fault_X10_in : GoodIn wsX10_fault wsX10_in := goodIn_r _ [6] (by decide +kernel) (by decide +kernel)
set_option maxRecDepth 20000 in
theorem gX10_fault_X10_in : GoodIn wsX10_fault (va_wsS RX10 42 yX10_in wsX10_in) := goodIn_app (goodIn_of _ (by decide +kernel)) ggX10_fault_X10_in
set_option maxRecDepth 20000 in
theorem ggX10_fault_X10_begins : GoodIn wsX10_fault wsX10_begins := goodIn_r _ [10, 11, 12, 143, 144, 145, 146, 147, 148, 149, 150, 151, 152, 153, 154, 155, 156, 157] (by decide +kernel) (by decide +kernel)
set_option maxRecDepth 20000 in
theorem gX10_fault_X10_begins : GoodIn wsX10_fault (wsV RX10 104 RX10 yX10_begins wsX10_begins) := goodIn_app (goodIn_of _ (by decide +kernel)) ggX10_fault_X10_begins
set_option maxRecDepth 20000 in
theorem ggX10_fault_X10_does : GoodIn wsX10_fault wsX10_does := goodIn_r _ [16, 17, 18, 2, 19, 1, 20, 21, 22, 5, 23, 24, 25, 26, 27, 28, 29, 30, 31, 32, 33, 3, 4, 6, 34, 35, 36, 37, 38, 39, 40, 41, 42, 43, 44, 45, 46, 47, 48, 49, 50, 51, 52, 53, 54, 55, 56, 57, 58, 12, 59, 60, 61, 62, 63, 64, 65, 66, 67, 68, 69, 70, 71, 72, 73, 74, 75, 76, 77, 78, 79, 80, 81, 82, 83, 84, 85, 86, 87, 88, 89, 90, 91, 92, 93, 94, 95, 96, 97, 98, 99, 100, 101, 102, 103, 104, 105, 106, 107, 108, 109, 110, 111, 112, 113, 114, 115, 116, 117, 118, 119, 120, 121, 122, 123, 124, 125, 126, 127, 128, 129, 130, 131, 132, 133, 134, 135, 136, 137, 138, 143, 144, 145, 146, 147, 148, 149, 150, 151, 152, 153, 154, 155, 156, 157] (by decide +kernel) (by decide +kernel)
set_option maxRecDepth 20000 in
theorem gX10_fault_X10_does : GoodIn wsX10_fault (wsV RX10 243 RX10 yX10_does wsX10_does) := goodIn_app (goodIn_of _ (by decide +kernel)) ggX10_fault_X10_does
set_option maxRecDepth 20000 in
theorem ggX10_fault_X10_returns : GoodIn wsX10_fault wsX10_returns := goodIn_r _ [142, 12, 11, 143, 144, 145, 146, 147, 148, 149, 150, 151, 152, 153, 154, 155, 156, 157] (by decide +kernel) (by decide +kernel)
set_option maxRecDepth 20000 in
theorem gX10_fault_X10_returns : GoodIn wsX10_fault (wsV RX10 246 RX10 yX10_returns wsX10_returns) := goodIn_app (goodIn_of _ (by decide +kernel)) ggX10_fault_X10_returns
theorem dX10_fault_0 : decode cX10_fault 0 = .ok (.iload_n 1, 1) := by decide +kernel
theorem dX10_fault_1 : decode cX10_fault 1 = .ok (.iconst 0, 1) := by decide +kernel
theorem dX10_fault_2 : decode cX10_fault 2 = .ok (.iconst 2, 1) := by decide +kernel
theorem dX10_fault_3 : decode cX10_fault 3 = .ok (.invokestatic 42, 3) := by decide +kernel
theorem dX10_fault_6 : decode cX10_fault 6 = .ok (.ifCond .ne 5, 3) := by decide +kernel
theorem dX10_fault_9 : decode cX10_fault 9 = .ok (.iconst (-1), 1) := by decide +kernel
theorem dX10_fault_10 : decode cX10_fault 10 = .ok (.ireturn, 1) := by decide +kernel
theorem dX10_fault_11 : decode cX10_fault 11 = .ok (.aload_n 0, 1) := by decide +kernel
theorem dX10_fault_12 : decode cX10_fault 12 = .ok (.invokevirtual 104, 3) := by decide +kernel
theorem dX10_fault_15 : decode cX10_fault 15 = .ok (.aload_n 0, 1) := by decide +kernel
theorem dX10_fault_16 : decode cX10_fault 16 = .ok (.invokevirtual 243, 3) := by decide +kernel
theorem dX10_fault_19 : decode cX10_fault 19 = .ok (.istore_n 2, 1) := by decide +kernel
theorem dX10_fault_20 : decode cX10_fault 20 = .ok (.aload_n 0, 1) := by decide +kernel
theorem dX10_fault_21 : decode cX10_fault 21 = .ok (.invokevirtual 246, 3) := by decide +kernel
theorem dX10_fault_24 : decode cX10_fault 24 = .ok (.iload_n 2, 1) := by decide +kernel
theorem dX10_fault_25 : decode cX10_fault 25 = .ok (.ifCond .lt 16, 3) := by decide +kernel
theorem dX10_fault_28 : decode cX10_fault 28 = .ok (.iload_n 1, 1) := by decide +kernel
theorem dX10_fault_29 : decode cX10_fault 29 = .ok (.iconst 2, 1) := by decide +kernel
theorem dX10_fault_30 : decode cX10_fault 30 = .ok (.if_icmp .ne 14, 3) := by decide +kernel
theorem dX10_fault_33 : decode cX10_fault 33 = .ok (.aload_n 0, 1) := by decide +kernel
theorem dX10_fault_34 : decode cX10_fault 34 = .ok (.getfield 240, 3) := by decide +kernel
theorem dX10_fault_37 : decode cX10_fault 37 = .ok (.iconst 1, 1) := by decide +kernel
theorem dX10_fault_38 : decode cX10_fault 38 = .ok (.if_icmp .ne 6, 3) := by decide +kernel
theorem dX10_fault_41 : decode cX10_fault 41 = .ok (.bipush (-4), 2) := by decide +kernel
theorem dX10_fault_43 : decode cX10_fault 43 = .ok (.ireturn, 1) := by decide +kernel
theorem dX10_fault_44 : decode cX10_fault 44 = .ok (.iload_n 1, 1) := by decide +kernel
theorem dX10_fault_45 : decode cX10_fault 45 = .ok (.ifCond .ne 7, 3) := by decide +kernel
theorem dX10_fault_48 : decode cX10_fault 48 = .ok (.iload_n 2, 1) := by decide +kernel
theorem dX10_fault_49 : decode cX10_fault 49 = .ok (.goto 19, 3) := by decide +kernel
theorem dX10_fault_52 : decode cX10_fault 52 = .ok (.iload_n 1, 1) := by decide +kernel
theorem dX10_fault_53 : decode cX10_fault 53 = .ok (.iconst 1, 1) := by decide +kernel
theorem dX10_fault_54 : decode cX10_fault 54 = .ok (.if_icmp .ne 10, 3) := by decide +kernel
theorem dX10_fault_57 : decode cX10_fault 57 = .ok (.aload_n 0, 1) := by decide +kernel
theorem dX10_fault_58 : decode cX10_fault 58 = .ok (.getfield 240, 3) := by decide +kernel
theorem dX10_fault_61 : decode cX10_fault 61 = .ok (.goto 7, 3) := by decide +kernel
theorem dX10_fault_64 : decode cX10_fault 64 = .ok (.aload_n 0, 1) := by decide +kernel
theorem dX10_fault_65 : decode cX10_fault 65 = .ok (.getfield 237, 3) := by decide +kernel
theorem dX10_fault_68 : decode cX10_fault 68 = .ok (.ireturn, 1) := by decide +kernel
set_option maxRecDepth 20000 in
theorem ggX10_play_X10_begins : GoodIn wsX10_play wsX10_begins := goodIn_r _ [5, 6, 7, 149, 150, 151, 152, 153, 154, 155, 156, 157, 158, 159, 160, 161, 162, 163] (by decide +kernel) (by decide +kernel)
set_option maxRecDepth 20000 in
theorem gX10_play_X10_begins : GoodIn wsX10_play (wsV RX10 104 RX10 yX10_begins wsX10_begins) := goodIn_app (goodIn_of _ (by decide +kernel)) ggX10_play_X10_begins
set_option maxRecDepth 20000 in
theorem ggX10_play_X10_does : GoodIn wsX10_play wsX10_does := goodIn_r _ [11, 12, 13, 14, 15, 16, 17, 18, 19, 4, 20, 21, 22, 23, 24, 25, 26, 27, 28, 29, 30, 31, 32, 33, 34, 35, 36, 37, 38, 39, 40, 41, 42, 43, 44, 45, 46, 47, 48, 49, 50, 51, 52, 53, 54, 55, 56, 57, 58, 7, 59, 60, 61, 62, 63, 64, 65, 66, 67, 68, 69, 70, 71, 72, 73, 74, 75, 76, 77, 78, 79, 80, 81, 82, 83, 84, 85, 86, 87, 88, 89, 90, 91, 92, 93, 94, 95, 96, 97, 98, 99, 100, 101, 102, 103, 104, 105, 106, 107, 108, 109, 110, 111, 112, 113, 114, 115, 116, 117, 118, 119, 120, 121, 122, 123, 124, 125, 126, 127, 128, 129, 130, 131, 132, 133, 134, 135, 136, 137, 138, 149, 150, 151, 152, 153, 154, 155, 156, 157, 158, 159, 160, 161, 162, 163] (by decide +kernel) (by decide +kernel)
set_option maxRecDepth 20000 in
theorem gX10_play_X10_does : GoodIn wsX10_play (wsV RX10 243 RX10 yX10_does wsX10_does) := goodIn_app (goodIn_of _ (by decide +kernel)) ggX10_play_X10_does
set_option maxRecDepth 20000 in
theorem ggX10_play_X10_returns : GoodIn wsX10_play wsX10_returns := goodIn_r _ [142, 7, 6, 149, 150, 151, 152, 153, 154, 155, 156, 157, 158, 159, 160, 161, 162, 163] (by decide +kernel) (by decide +kernel)
set_option maxRecDepth 20000 in
theorem gX10_play_X10_returns : GoodIn wsX10_play (wsV RX10 246 RX10 yX10_returns wsX10_returns) := goodIn_app (goodIn_of _ (by decide +kernel)) ggX10_play_X10_returns
set_option maxRecDepth 20000 in
theorem ggX10_play_X10_acted : GoodIn wsX10_play wsX10_acted := goodIn_r _ [146, 147, 148, 6, 149, 150, 151, 152, 153, 154, 155, 156, 157, 158, 159, 160, 161, 162, 163] (by decide +kernel) (by decide +kernel)
set_option maxRecDepth 20000 in
theorem gX10_play_X10_acted : GoodIn wsX10_play (wsV RX10 111 RX10 yX10_acted wsX10_acted) := goodIn_app (goodIn_of _ (by decide +kernel)) ggX10_play_X10_acted
theorem dX10_play_0 : decode cX10_play 0 = .ok (.aload_n 0, 1) := by decide +kernel
theorem dX10_play_1 : decode cX10_play 1 = .ok (.invokevirtual 104, 3) := by decide +kernel
theorem dX10_play_4 : decode cX10_play 4 = .ok (.aload_n 0, 1) := by decide +kernel
theorem dX10_play_5 : decode cX10_play 5 = .ok (.invokevirtual 243, 3) := by decide +kernel
theorem dX10_play_8 : decode cX10_play 8 = .ok (.istore_n 1, 1) := by decide +kernel
theorem dX10_play_9 : decode cX10_play 9 = .ok (.iload_n 1, 1) := by decide +kernel
theorem dX10_play_10 : decode cX10_play 10 = .ok (.ifCond .lt 10, 3) := by decide +kernel
theorem dX10_play_13 : decode cX10_play 13 = .ok (.aload_n 0, 1) := by decide +kernel
theorem dX10_play_14 : decode cX10_play 14 = .ok (.invokevirtual 246, 3) := by decide +kernel
theorem dX10_play_17 : decode cX10_play 17 = .ok (.bipush (-2), 2) := by decide +kernel
theorem dX10_play_19 : decode cX10_play 19 = .ok (.ireturn, 1) := by decide +kernel
theorem dX10_play_20 : decode cX10_play 20 = .ok (.aload_n 0, 1) := by decide +kernel
theorem dX10_play_21 : decode cX10_play 21 = .ok (.iconst (-1), 1) := by decide +kernel
theorem dX10_play_22 : decode cX10_play 22 = .ok (.iload_n 1, 1) := by decide +kernel
theorem dX10_play_23 : decode cX10_play 23 = .ok (.isub, 1) := by decide +kernel
theorem dX10_play_24 : decode cX10_play 24 = .ok (.invokevirtual 111, 3) := by decide +kernel
theorem dX10_play_27 : decode cX10_play 27 = .ok (.ireturn, 1) := by decide +kernel
theorem dJ9_min_7cf53_0 : decode cJ9_min_7cf53 0 = .ok (.iload_n 0, 1) := by decide +kernel
theorem dJ9_min_7cf53_1 : decode cJ9_min_7cf53 1 = .ok (.iload_n 1, 1) := by decide +kernel
theorem dJ9_min_7cf53_2 : decode cJ9_min_7cf53 2 = .ok (.if_icmp .gt 7, 3) := by decide +kernel
theorem dJ9_min_7cf53_5 : decode cJ9_min_7cf53 5 = .ok (.iload_n 0, 1) := by decide +kernel
theorem dJ9_min_7cf53_6 : decode cJ9_min_7cf53 6 = .ok (.goto 4, 3) := by decide +kernel
theorem dJ9_min_7cf53_9 : decode cJ9_min_7cf53 9 = .ok (.iload_n 1, 1) := by decide +kernel
theorem dJ9_min_7cf53_10 : decode cJ9_min_7cf53 10 = .ok (.ireturn, 1) := by decide +kernel
set_option maxRecDepth 20000 in
theorem ggJ0_length_8abf5_J0_coder_7d493 : GoodIn wsJ0_length_8abf5 wsJ0_coder_7d493 := goodIn_r _ [6, 7, 8] (by decide +kernel) (by decide +kernel)
set_option maxRecDepth 20000 in
theorem gJ0_length_8abf5_J0_coder_7d493 : GoodIn wsJ0_length_8abf5 (wsV RJ0 335 RJ0 yJ0_coder_7d493 wsJ0_coder_7d493) := goodIn_app (goodIn_of _ (by decide +kernel)) ggJ0_length_8abf5_J0_coder_7d493
theorem dJ0_length_8abf5_0 : decode cJ0_length_8abf5 0 = .ok (.aload_n 0, 1) := by decide +kernel
theorem dJ0_length_8abf5_1 : decode cJ0_length_8abf5 1 = .ok (.getfield 9, 3) := by decide +kernel
theorem dJ0_length_8abf5_4 : decode cJ0_length_8abf5 4 = .ok (.arraylength, 1) := by decide +kernel
theorem dJ0_length_8abf5_5 : decode cJ0_length_8abf5 5 = .ok (.aload_n 0, 1) := by decide +kernel
theorem dJ0_length_8abf5_6 : decode cJ0_length_8abf5 6 = .ok (.invokevirtual 335, 3) := by decide +kernel
theorem dJ0_length_8abf5_9 : decode cJ0_length_8abf5 9 = .ok (.ishr, 1) := by decide +kernel
theorem dJ0_length_8abf5_10 : decode cJ0_length_8abf5 10 = .ok (.ireturn, 1) := by decide +kernel
set_option maxRecDepth 20000 in
theorem ggJ0_charAt_5068e_J0_isLatin1_aae02 : GoodIn wsJ0_charAt_5068e wsJ0_isLatin1_aae02 := goodIn_r _ [6, 7, 8] (by decide +kernel) (by decide +kernel)
set_option maxRecDepth 20000 in
theorem gJ0_charAt_5068e_J0_isLatin1_aae02 : GoodIn wsJ0_charAt_5068e (wsV RJ0 492 RJ0 yJ0_isLatin1_aae02 wsJ0_isLatin1_aae02) := goodIn_app (goodIn_of _ (by decide +kernel)) ggJ0_charAt_5068e_J0_isLatin1_aae02
set_option maxRecDepth 20000 in
theorem ggJ0_charAt_5068e_J1_charAt_3b067 : GoodIn wsJ0_charAt_5068e wsJ1_charAt_3b067 := goodIn_r _ [12, 13, 14, 5, 15, 16, 17, 18, 19, 20] (by decide +kernel) (by decide +kernel)
set_option maxRecDepth 20000 in
theorem gJ0_charAt_5068e_J1_charAt_3b067 : GoodIn wsJ0_charAt_5068e (va_wsS RJ0 495 yJ1_charAt_3b067 wsJ1_charAt_3b067) := goodIn_app (goodIn_of _ (by decide +kernel)) ggJ0_charAt_5068e_J1_charAt_3b067
set_option maxRecDepth 20000 in
theorem ggJ0_charAt_5068e_J2_charAt_3b067 : GoodIn wsJ0_charAt_5068e wsJ2_charAt_3b067 := goodIn_r _ [24, 25, 26, 23, 27, 28, 29, 30, 31, 14, 5, 15, 16, 17, 18, 19, 20, 32, 33, 34, 35, 36, 37] (by decide +kernel) (by decide +kernel)
set_option maxRecDepth 20000 in
theorem gJ0_charAt_5068e_J2_charAt_3b067 : GoodIn wsJ0_charAt_5068e (va_wsS RJ0 498 yJ2_charAt_3b067 wsJ2_charAt_3b067) := goodIn_app (goodIn_of _ (by decide +kernel)) ggJ0_charAt_5068e_J2_charAt_3b067
theorem dJ0_charAt_5068e_0 : decode cJ0_charAt_5068e 0 = .ok (.aload_n 0, 1) := by decide +kernel
theorem dJ0_charAt_5068e_1 : decode cJ0_charAt_5068e 1 = .ok (.invokevirtual 492, 3) := by decide +kernel
theorem dJ0_charAt_5068e_4 : decode cJ0_charAt_5068e 4 = .ok (.ifCond .eq 12, 3) := by decide +kernel
theorem dJ0_charAt_5068e_7 : decode cJ0_charAt_5068e 7 = .ok (.aload_n 0, 1) := by decide +kernel
theorem dJ0_charAt_5068e_8 : decode cJ0_charAt_5068e 8 = .ok (.getfield 9, 3) := by decide +kernel
theorem dJ0_charAt_5068e_11 : decode cJ0_charAt_5068e 11 = .ok (.iload_n 1, 1) := by decide +kernel
theorem dJ0_charAt_5068e_12 : decode cJ0_charAt_5068e 12 = .ok (.invokestatic 495, 3) := by decide +kernel
theorem dJ0_charAt_5068e_15 : decode cJ0_charAt_5068e 15 = .ok (.ireturn, 1) := by decide +kernel
theorem dJ0_charAt_5068e_16 : decode cJ0_charAt_5068e 16 = .ok (.aload_n 0, 1) := by decide +kernel
theorem dJ0_charAt_5068e_17 : decode cJ0_charAt_5068e 17 = .ok (.getfield 9, 3) := by decide +kernel
theorem dJ0_charAt_5068e_20 : decode cJ0_charAt_5068e 20 = .ok (.iload_n 1, 1) := by decide +kernel
theorem dJ0_charAt_5068e_21 : decode cJ0_charAt_5068e 21 = .ok (.invokestatic 498, 3) := by decide +kernel
theorem dJ0_charAt_5068e_24 : decode cJ0_charAt_5068e 24 = .ok (.ireturn, 1) := by decide +kernel
theorem dJ0_coder_7d493_0 : decode cJ0_coder_7d493 0 = .ok (.getstatic 38, 3) := by decide +kernel
theorem dJ0_coder_7d493_3 : decode cJ0_coder_7d493 3 = .ok (.ifCond .eq 10, 3) := by decide +kernel
theorem dJ0_coder_7d493_6 : decode cJ0_coder_7d493 6 = .ok (.aload_n 0, 1) := by decide +kernel
theorem dJ0_coder_7d493_7 : decode cJ0_coder_7d493 7 = .ok (.getfield 15, 3) := by decide +kernel
theorem dJ0_coder_7d493_10 : decode cJ0_coder_7d493 10 = .ok (.goto 4, 3) := by decide +kernel
theorem dJ0_coder_7d493_13 : decode cJ0_coder_7d493 13 = .ok (.iconst 1, 1) := by decide +kernel
theorem dJ0_coder_7d493_14 : decode cJ0_coder_7d493 14 = .ok (.ireturn, 1) := by decide +kernel
theorem dJ0_isLatin1_aae02_0 : decode cJ0_isLatin1_aae02 0 = .ok (.getstatic 38, 3) := by decide +kernel
theorem dJ0_isLatin1_aae02_3 : decode cJ0_isLatin1_aae02 3 = .ok (.ifCond .eq 14, 3) := by decide +kernel
theorem dJ0_isLatin1_aae02_6 : decode cJ0_isLatin1_aae02 6 = .ok (.aload_n 0, 1) := by decide +kernel
theorem dJ0_isLatin1_aae02_7 : decode cJ0_isLatin1_aae02 7 = .ok (.getfield 15, 3) := by decide +kernel
theorem dJ0_isLatin1_aae02_10 : decode cJ0_isLatin1_aae02 10 = .ok (.ifCond .ne 7, 3) := by decide +kernel
theorem dJ0_isLatin1_aae02_13 : decode cJ0_isLatin1_aae02 13 = .ok (.iconst 1, 1) := by decide +kernel
theorem dJ0_isLatin1_aae02_14 : decode cJ0_isLatin1_aae02 14 = .ok (.goto 4, 3) := by decide +kernel
theorem dJ0_isLatin1_aae02_17 : decode cJ0_isLatin1_aae02 17 = .ok (.iconst 0, 1) := by decide +kernel
theorem dJ0_isLatin1_aae02_18 : decode cJ0_isLatin1_aae02 18 = .ok (.ireturn, 1) := by decide +kernel
set_option maxRecDepth 20000 in
theorem ggJ0_checkIndex_df160_J3_checkIndex_8e157 : GoodIn wsJ0_checkIndex_df160 wsJ3_checkIndex_8e157 := goodIn_r _ [5] (by decide +kernel) (by decide +kernel)
set_option maxRecDepth 20000 in
theorem gJ0_checkIndex_df160_J3_checkIndex_8e157 : GoodIn wsJ0_checkIndex_df160 (va_wsS RJ0 1059 yJ3_checkIndex_8e157 wsJ3_checkIndex_8e157) := goodIn_app (goodIn_of _ (by decide +kernel)) ggJ0_checkIndex_df160_J3_checkIndex_8e157
theorem dJ0_checkIndex_df160_0 : decode cJ0_checkIndex_df160 0 = .ok (.iload_n 0, 1) := by decide +kernel
theorem dJ0_checkIndex_df160_1 : decode cJ0_checkIndex_df160 1 = .ok (.iload_n 1, 1) := by decide +kernel
theorem dJ0_checkIndex_df160_2 : decode cJ0_checkIndex_df160 2 = .ok (.getstatic 1053, 3) := by decide +kernel
theorem dJ0_checkIndex_df160_5 : decode cJ0_checkIndex_df160 5 = .ok (.invokestatic 1059, 3) := by decide +kernel
theorem dJ0_checkIndex_df160_8 : decode cJ0_checkIndex_df160 8 = .ok (.pop, 1) := by decide +kernel
theorem dJ0_checkIndex_df160_9 : decode cJ0_checkIndex_df160 9 = .ok (.return_, 1) := by decide +kernel
set_option maxRecDepth 20000 in
theorem ggJ1_charAt_3b067_J0_checkIndex_df160 : GoodIn wsJ1_charAt_3b067 wsJ0_checkIndex_df160 := goodIn_r _ [4, 5, 6, 7, 8, 9] (by decide +kernel) (by decide +kernel)
set_option maxRecDepth 20000 in
theorem gJ1_charAt_3b067_J0_checkIndex_df160 : GoodIn wsJ1_charAt_3b067 (va_wsS RJ1 9 yJ0_checkIndex_df160 wsJ0_checkIndex_df160) := goodIn_app (goodIn_of _ (by decide +kernel)) ggJ1_charAt_3b067_J0_checkIndex_df160
theorem dJ1_charAt_3b067_0 : decode cJ1_charAt_3b067 0 = .ok (.iload_n 1, 1) := by decide +kernel
theorem dJ1_charAt_3b067_1 : decode cJ1_charAt_3b067 1 = .ok (.aload_n 0, 1) := by decide +kernel
theorem dJ1_charAt_3b067_2 : decode cJ1_charAt_3b067 2 = .ok (.arraylength, 1) := by decide +kernel
theorem dJ1_charAt_3b067_3 : decode cJ1_charAt_3b067 3 = .ok (.invokestatic 9, 3) := by decide +kernel
theorem dJ1_charAt_3b067_6 : decode cJ1_charAt_3b067 6 = .ok (.aload_n 0, 1) := by decide +kernel
theorem dJ1_charAt_3b067_7 : decode cJ1_charAt_3b067 7 = .ok (.iload_n 1, 1) := by decide +kernel
theorem dJ1_charAt_3b067_8 : decode cJ1_charAt_3b067 8 = .ok (.baload, 1) := by decide +kernel
theorem dJ1_charAt_3b067_9 : decode cJ1_charAt_3b067 9 = .ok (.sipush 255, 3) := by decide +kernel
theorem dJ1_charAt_3b067_12 : decode cJ1_charAt_3b067 12 = .ok (.iand, 1) := by decide +kernel
theorem dJ1_charAt_3b067_13 : decode cJ1_charAt_3b067 13 = .ok (.i2c, 1) := by decide +kernel
theorem dJ1_charAt_3b067_14 : decode cJ1_charAt_3b067 14 = .ok (.ireturn, 1) := by decide +kernel
set_option maxRecDepth 20000 in
theorem ggJ2_getChar_3b067_J2_length_9d52b : GoodIn wsJ2_getChar_3b067 wsJ2_length_9d52b := goodIn_r _ [7] (by decide +kernel) (by decide +kernel)
set_option maxRecDepth 20000 in
theorem gJ2_getChar_3b067_J2_length_9d52b : GoodIn wsJ2_getChar_3b067 (va_wsS RJ2 48 yJ2_length_9d52b wsJ2_length_9d52b) := goodIn_app (goodIn_of _ (by decide +kernel)) ggJ2_getChar_3b067_J2_length_9d52b
theorem dJ2_getChar_3b067_0 : decode cJ2_getChar_3b067 0 = .ok (.getstatic 44, 3) := by decide +kernel
theorem dJ2_getChar_3b067_3 : decode cJ2_getChar_3b067 3 = .ok (.ifCond .ne 25, 3) := by decide +kernel
theorem dJ2_getChar_3b067_6 : decode cJ2_getChar_3b067 6 = .ok (.iload_n 1, 1) := by decide +kernel
theorem dJ2_getChar_3b067_7 : decode cJ2_getChar_3b067 7 = .ok (.ifCond .lt 11, 3) := by decide +kernel
theorem dJ2_getChar_3b067_10 : decode cJ2_getChar_3b067 10 = .ok (.iload_n 1, 1) := by decide +kernel
theorem dJ2_getChar_3b067_11 : decode cJ2_getChar_3b067 11 = .ok (.aload_n 0, 1) := by decide +kernel
theorem dJ2_getChar_3b067_12 : decode cJ2_getChar_3b067 12 = .ok (.invokestatic 48, 3) := by decide +kernel
theorem dJ2_getChar_3b067_15 : decode cJ2_getChar_3b067 15 = .ok (.if_icmp .lt 13, 3) := by decide +kernel
theorem dJ2_getChar_3b067_18 : decode cJ2_getChar_3b067 18 = .ok (.new 52, 3) := by decide +kernel
theorem dJ2_getChar_3b067_21 : decode cJ2_getChar_3b067 21 = .ok (.dup, 1) := by decide +kernel
theorem dJ2_getChar_3b067_22 : decode cJ2_getChar_3b067 22 = .ok (.ldc 54, 2) := by decide +kernel
theorem dJ2_getChar_3b067_24 : decode cJ2_getChar_3b067 24 = .ok (.invokespecial 56, 3) := by decide +kernel
theorem dJ2_getChar_3b067_27 : decode cJ2_getChar_3b067 27 = .ok (.athrow, 1) := by decide +kernel
theorem dJ2_getChar_3b067_28 : decode cJ2_getChar_3b067 28 = .ok (.iload_n 1, 1) := by decide +kernel
theorem dJ2_getChar_3b067_29 : decode cJ2_getChar_3b067 29 = .ok (.iconst 1, 1) := by decide +kernel
theorem dJ2_getChar_3b067_30 : decode cJ2_getChar_3b067 30 = .ok (.ishl, 1) := by decide +kernel
theorem dJ2_getChar_3b067_31 : decode cJ2_getChar_3b067 31 = .ok (.istore_n 1, 1) := by decide +kernel
theorem dJ2_getChar_3b067_32 : decode cJ2_getChar_3b067 32 = .ok (.aload_n 0, 1) := by decide +kernel
theorem dJ2_getChar_3b067_33 : decode cJ2_getChar_3b067 33 = .ok (.iload_n 1, 1) := by decide +kernel
theorem dJ2_getChar_3b067_34 : decode cJ2_getChar_3b067 34 = .ok (.iinc 1 1, 3) := by decide +kernel
theorem dJ2_getChar_3b067_37 : decode cJ2_getChar_3b067 37 = .ok (.baload, 1) := by decide +kernel
theorem dJ2_getChar_3b067_38 : decode cJ2_getChar_3b067 38 = .ok (.sipush 255, 3) := by decide +kernel
theorem dJ2_getChar_3b067_41 : decode cJ2_getChar_3b067 41 = .ok (.iand, 1) := by decide +kernel
theorem dJ2_getChar_3b067_42 : decode cJ2_getChar_3b067 42 = .ok (.getstatic 59, 3) := by decide +kernel
theorem dJ2_getChar_3b067_45 : decode cJ2_getChar_3b067 45 = .ok (.ishl, 1) := by decide +kernel
theorem dJ2_getChar_3b067_46 : decode cJ2_getChar_3b067 46 = .ok (.aload_n 0, 1) := by decide +kernel
theorem dJ2_getChar_3b067_47 : decode cJ2_getChar_3b067 47 = .ok (.iload_n 1, 1) := by decide +kernel
theorem dJ2_getChar_3b067_48 : decode cJ2_getChar_3b067 48 = .ok (.baload, 1) := by decide +kernel
theorem dJ2_getChar_3b067_49 : decode cJ2_getChar_3b067 49 = .ok (.sipush 255, 3) := by decide +kernel
theorem dJ2_getChar_3b067_52 : decode cJ2_getChar_3b067 52 = .ok (.iand, 1) := by decide +kernel
theorem dJ2_getChar_3b067_53 : decode cJ2_getChar_3b067 53 = .ok (.getstatic 63, 3) := by decide +kernel
theorem dJ2_getChar_3b067_56 : decode cJ2_getChar_3b067 56 = .ok (.ishl, 1) := by decide +kernel
theorem dJ2_getChar_3b067_57 : decode cJ2_getChar_3b067 57 = .ok (.ior, 1) := by decide +kernel
theorem dJ2_getChar_3b067_58 : decode cJ2_getChar_3b067 58 = .ok (.i2c, 1) := by decide +kernel
theorem dJ2_getChar_3b067_59 : decode cJ2_getChar_3b067 59 = .ok (.ireturn, 1) := by decide +kernel
theorem dJ2_length_9d52b_0 : decode cJ2_length_9d52b 0 = .ok (.aload_n 0, 1) := by decide +kernel
theorem dJ2_length_9d52b_1 : decode cJ2_length_9d52b 1 = .ok (.arraylength, 1) := by decide +kernel
theorem dJ2_length_9d52b_2 : decode cJ2_length_9d52b 2 = .ok (.iconst 1, 1) := by decide +kernel
theorem dJ2_length_9d52b_3 : decode cJ2_length_9d52b 3 = .ok (.ishr, 1) := by decide +kernel
theorem dJ2_length_9d52b_4 : decode cJ2_length_9d52b 4 = .ok (.ireturn, 1) := by decide +kernel
set_option maxRecDepth 20000 in
theorem ggJ2_charAt_3b067_J2_checkIndex_2214a : GoodIn wsJ2_charAt_3b067 wsJ2_checkIndex_2214a := goodIn_r _ [4, 5, 6, 3, 7, 8, 9, 10, 11, 12, 13, 14, 15, 16] (by decide +kernel) (by decide +kernel)
set_option maxRecDepth 20000 in
theorem gJ2_charAt_3b067_J2_checkIndex_2214a : GoodIn wsJ2_charAt_3b067 (va_wsS RJ2 67 yJ2_checkIndex_2214a wsJ2_checkIndex_2214a) := goodIn_app (goodIn_of _ (by decide +kernel)) ggJ2_charAt_3b067_J2_checkIndex_2214a
set_option maxRecDepth 20000 in
theorem ggJ2_charAt_3b067_J2_getChar_3b067 : GoodIn wsJ2_charAt_3b067 wsJ2_getChar_3b067 := goodIn_r _ [19, 20, 21, 22, 5, 6, 3, 7] (by decide +kernel) (by decide +kernel)
set_option maxRecDepth 20000 in
theorem gJ2_charAt_3b067_J2_getChar_3b067 : GoodIn wsJ2_charAt_3b067 (va_wsS RJ2 71 yJ2_getChar_3b067 wsJ2_getChar_3b067) := goodIn_app (goodIn_of _ (by decide +kernel)) ggJ2_charAt_3b067_J2_getChar_3b067
theorem dJ2_charAt_3b067_0 : decode cJ2_charAt_3b067 0 = .ok (.iload_n 1, 1) := by decide +kernel
theorem dJ2_charAt_3b067_1 : decode cJ2_charAt_3b067 1 = .ok (.aload_n 0, 1) := by decide +kernel
theorem dJ2_charAt_3b067_2 : decode cJ2_charAt_3b067 2 = .ok (.invokestatic 67, 3) := by decide +kernel
theorem dJ2_charAt_3b067_5 : decode cJ2_charAt_3b067 5 = .ok (.aload_n 0, 1) := by decide +kernel
theorem dJ2_charAt_3b067_6 : decode cJ2_charAt_3b067 6 = .ok (.iload_n 1, 1) := by decide +kernel
theorem dJ2_charAt_3b067_7 : decode cJ2_charAt_3b067 7 = .ok (.invokestatic 71, 3) := by decide +kernel
theorem dJ2_charAt_3b067_10 : decode cJ2_charAt_3b067 10 = .ok (.ireturn, 1) := by decide +kernel
set_option maxRecDepth 20000 in
theorem ggJ2_checkIndex_2214a_J2_length_9d52b : GoodIn wsJ2_checkIndex_2214a wsJ2_length_9d52b := goodIn_r _ [4] (by decide +kernel) (by decide +kernel)
set_option maxRecDepth 20000 in
theorem gJ2_checkIndex_2214a_J2_length_9d52b : GoodIn wsJ2_checkIndex_2214a (va_wsS RJ2 48 yJ2_length_9d52b wsJ2_length_9d52b) := goodIn_app (goodIn_of _ (by decide +kernel)) ggJ2_checkIndex_2214a_J2_length_9d52b
set_option maxRecDepth 20000 in
theorem ggJ2_checkIndex_2214a_J0_checkIndex_df160 : GoodIn wsJ2_checkIndex_2214a wsJ0_checkIndex_df160 := goodIn_r _ [8, 9, 10, 11, 12, 13] (by decide +kernel) (by decide +kernel)
set_option maxRecDepth 20000 in
theorem gJ2_checkIndex_2214a_J0_checkIndex_df160 : GoodIn wsJ2_checkIndex_2214a (va_wsS RJ2 414 yJ0_checkIndex_df160 wsJ0_checkIndex_df160) := goodIn_app (goodIn_of _ (by decide +kernel)) ggJ2_checkIndex_2214a_J0_checkIndex_df160
theorem dJ2_checkIndex_2214a_0 : decode cJ2_checkIndex_2214a 0 = .ok (.iload_n 0, 1) := by decide +kernel
theorem dJ2_checkIndex_2214a_1 : decode cJ2_checkIndex_2214a 1 = .ok (.aload_n 1, 1) := by decide +kernel
theorem dJ2_checkIndex_2214a_2 : decode cJ2_checkIndex_2214a 2 = .ok (.invokestatic 48, 3) := by decide +kernel
theorem dJ2_checkIndex_2214a_5 : decode cJ2_checkIndex_2214a 5 = .ok (.invokestatic 414, 3) := by decide +kernel
theorem dJ2_checkIndex_2214a_8 : decode cJ2_checkIndex_2214a 8 = .ok (.return_, 1) := by decide +kernel
theorem dJ3_checkIndex_8e157_0 : decode cJ3_checkIndex_8e157 0 = .ok (.iload_n 0, 1) := by decide +kernel
theorem dJ3_checkIndex_8e157_1 : decode cJ3_checkIndex_8e157 1 = .ok (.ifCond .lt 8, 3) := by decide +kernel
theorem dJ3_checkIndex_8e157_4 : decode cJ3_checkIndex_8e157 4 = .ok (.iload_n 0, 1) := by decide +kernel
theorem dJ3_checkIndex_8e157_5 : decode cJ3_checkIndex_8e157 5 = .ok (.iload_n 1, 1) := by decide +kernel
theorem dJ3_checkIndex_8e157_6 : decode cJ3_checkIndex_8e157 6 = .ok (.if_icmp .lt 10, 3) := by decide +kernel
theorem dJ3_checkIndex_8e157_9 : decode cJ3_checkIndex_8e157 9 = .ok (.aload_n 2, 1) := by decide +kernel
theorem dJ3_checkIndex_8e157_10 : decode cJ3_checkIndex_8e157 10 = .ok (.iload_n 0, 1) := by decide +kernel
theorem dJ3_checkIndex_8e157_11 : decode cJ3_checkIndex_8e157 11 = .ok (.iload_n 1, 1) := by decide +kernel
theorem dJ3_checkIndex_8e157_12 : decode cJ3_checkIndex_8e157 12 = .ok (.invokestatic 95, 3) := by decide +kernel
theorem dJ3_checkIndex_8e157_15 : decode cJ3_checkIndex_8e157 15 = .ok (.athrow, 1) := by decide +kernel
theorem dJ3_checkIndex_8e157_16 : decode cJ3_checkIndex_8e157 16 = .ok (.iload_n 0, 1) := by decide +kernel
theorem dJ3_checkIndex_8e157_17 : decode cJ3_checkIndex_8e157 17 = .ok (.ireturn, 1) := by decide +kernel
