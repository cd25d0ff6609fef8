theorem dX11_keep_28 : decode cX11_keep 28 = .ok (.aload_n 0, 1) := by decide +kernel
theorem dX11_keep_29 : decode cX11_keep 29 = .ok (.getfield 31, 3) := by decide +kernel
theorem dX11_keep_32 : decode cX11_keep 32 = .ok (.iload_n 1, 1) := by decide +kernel
theorem dX11_keep_33 : decode cX11_keep 33 = .ok (.iconst 1, 1) := by decide +kernel
theorem dX11_keep_34 : decode cX11_keep 34 = .ok (.bastore, 1) := by decide +kernel
theorem dX11_keep_35 : decode cX11_keep 35 = .ok (.iload_n 1, 1) := by decide +kernel
theorem dX11_keep_36 : decode cX11_keep 36 = .ok (.ireturn, 1) := by decide +kernel
set_option maxRecDepth 20000 in
theorem ggX11_back_X11_in : GoodIn wsX11_back wsX11_in := goodIn_r _ [8] (by decide +kernel) (by decide +kernel)
set_option maxRecDepth 20000 in
theorem gX11_back_X11_in : GoodIn wsX11_back (va_wsS RX11 94 yX11_in wsX11_in) := goodIn_app (goodIn_of _ (by decide +kernel)) ggX11_back_X11_in
set_option maxRecDepth 20000 in
theorem ggX11_back_X11_copy : GoodIn wsX11_back wsX11_copy := goodIn_r _ [11] (by decide +kernel) (by decide +kernel)
set_option maxRecDepth 20000 in
theorem gX11_back_X11_copy : GoodIn wsX11_back (va_wsS RX11 244 yX11_copy wsX11_copy) := goodIn_app (goodIn_of _ (by decide +kernel)) ggX11_back_X11_copy
theorem dX11_back_0 : decode cX11_back 0 = .ok (.iload_n 1, 1) := by decide +kernel
theorem dX11_back_1 : decode cX11_back 1 = .ok (.iconst 0, 1) := by decide +kernel
theorem dX11_back_2 : decode cX11_back 2 = .ok (.iconst 1, 1) := by decide +kernel
theorem dX11_back_3 : decode cX11_back 3 = .ok (.invokestatic 94, 3) := by decide +kernel
theorem dX11_back_6 : decode cX11_back 6 = .ok (.ifCond .ne 6, 3) := by decide +kernel
theorem dX11_back_9 : decode cX11_back 9 = .ok (.bipush (-2), 2) := by decide +kernel
theorem dX11_back_11 : decode cX11_back 11 = .ok (.ireturn, 1) := by decide +kernel
theorem dX11_back_12 : decode cX11_back 12 = .ok (.aload_n 0, 1) := by decide +kernel
theorem dX11_back_13 : decode cX11_back 13 = .ok (.getfield 31, 3) := by decide +kernel
theorem dX11_back_16 : decode cX11_back 16 = .ok (.iload_n 1, 1) := by decide +kernel
theorem dX11_back_17 : decode cX11_back 17 = .ok (.baload, 1) := by decide +kernel
theorem dX11_back_18 : decode cX11_back 18 = .ok (.ifCond .ne 6, 3) := by decide +kernel
theorem dX11_back_21 : decode cX11_back 21 = .ok (.bipush (-4), 2) := by decide +kernel
theorem dX11_back_23 : decode cX11_back 23 = .ok (.ireturn, 1) := by decide +kernel
theorem dX11_back_24 : decode cX11_back 24 = .ok (.aload_n 0, 1) := by decide +kernel
theorem dX11_back_25 : decode cX11_back 25 = .ok (.getfield 28, 3) := by decide +kernel
theorem dX11_back_28 : decode cX11_back 28 = .ok (.bipush 20, 2) := by decide +kernel
theorem dX11_back_30 : decode cX11_back 30 = .ok (.iload_n 1, 1) := by decide +kernel
theorem dX11_back_31 : decode cX11_back 31 = .ok (.imul, 1) := by decide +kernel
theorem dX11_back_32 : decode cX11_back 32 = .ok (.aload_n 0, 1) := by decide +kernel
theorem dX11_back_33 : decode cX11_back 33 = .ok (.getfield 25, 3) := by decide +kernel
theorem dX11_back_36 : decode cX11_back 36 = .ok (.iconst 0, 1) := by decide +kernel
theorem dX11_back_37 : decode cX11_back 37 = .ok (.invokestatic 244, 3) := by decide +kernel
theorem dX11_back_40 : decode cX11_back 40 = .ok (.aload_n 0, 1) := by decide +kernel
theorem dX11_back_41 : decode cX11_back 41 = .ok (.iconst 0, 1) := by decide +kernel
theorem dX11_back_42 : decode cX11_back 42 = .ok (.putfield 82, 3) := by decide +kernel
theorem dX11_back_45 : decode cX11_back 45 = .ok (.iload_n 1, 1) := by decide +kernel
theorem dX11_back_46 : decode cX11_back 46 = .ok (.ireturn, 1) := by decide +kernel
theorem dX11_isIn_0 : decode cX11_isIn 0 = .ok (.iload_n 3, 1) := by decide +kernel
theorem dX11_isIn_1 : decode cX11_isIn 1 = .ok (.bipush 64, 2) := by decide +kernel
theorem dX11_isIn_3 : decode cX11_isIn 3 = .ok (.if_icmp .ge 23, 3) := by decide +kernel
theorem dX11_isIn_6 : decode cX11_isIn 6 = .ok (.aload_n 0, 1) := by decide +kernel
theorem dX11_isIn_7 : decode cX11_isIn 7 = .ok (.iload_n 2, 1) := by decide +kernel
theorem dX11_isIn_8 : decode cX11_isIn 8 = .ok (.laload, 1) := by decide +kernel
theorem dX11_isIn_9 : decode cX11_isIn 9 = .ok (.iload_n 3, 1) := by decide +kernel
theorem dX11_isIn_10 : decode cX11_isIn 10 = .ok (.lshr, 1) := by decide +kernel
theorem dX11_isIn_11 : decode cX11_isIn 11 = .ok (.lconst 1, 1) := by decide +kernel
theorem dX11_isIn_12 : decode cX11_isIn 12 = .ok (.land, 1) := by decide +kernel
theorem dX11_isIn_13 : decode cX11_isIn 13 = .ok (.lconst 1, 1) := by decide +kernel
theorem dX11_isIn_14 : decode cX11_isIn 14 = .ok (.lcmp, 1) := by decide +kernel
theorem dX11_isIn_15 : decode cX11_isIn 15 = .ok (.ifCond .ne 7, 3) := by decide +kernel
theorem dX11_isIn_18 : decode cX11_isIn 18 = .ok (.iconst 1, 1) := by decide +kernel
theorem dX11_isIn_19 : decode cX11_isIn 19 = .ok (.goto 27, 3) := by decide +kernel
theorem dX11_isIn_22 : decode cX11_isIn 22 = .ok (.iconst 0, 1) := by decide +kernel
theorem dX11_isIn_23 : decode cX11_isIn 23 = .ok (.goto 23, 3) := by decide +kernel
theorem dX11_isIn_26 : decode cX11_isIn 26 = .ok (.aload_n 1, 1) := by decide +kernel
theorem dX11_isIn_27 : decode cX11_isIn 27 = .ok (.iload_n 2, 1) := by decide +kernel
theorem dX11_isIn_28 : decode cX11_isIn 28 = .ok (.laload, 1) := by decide +kernel
theorem dX11_isIn_29 : decode cX11_isIn 29 = .ok (.iload_n 3, 1) := by decide +kernel
theorem dX11_isIn_30 : decode cX11_isIn 30 = .ok (.bipush 64, 2) := by decide +kernel
theorem dX11_isIn_32 : decode cX11_isIn 32 = .ok (.isub, 1) := by decide +kernel
theorem dX11_isIn_33 : decode cX11_isIn 33 = .ok (.lshr, 1) := by decide +kernel
theorem dX11_isIn_34 : decode cX11_isIn 34 = .ok (.lconst 1, 1) := by decide +kernel
theorem dX11_isIn_35 : decode cX11_isIn 35 = .ok (.land, 1) := by decide +kernel
theorem dX11_isIn_36 : decode cX11_isIn 36 = .ok (.lconst 1, 1) := by decide +kernel
theorem dX11_isIn_37 : decode cX11_isIn 37 = .ok (.lcmp, 1) := by decide +kernel
theorem dX11_isIn_38 : decode cX11_isIn 38 = .ok (.ifCond .ne 7, 3) := by decide +kernel
theorem dX11_isIn_41 : decode cX11_isIn 41 = .ok (.iconst 1, 1) := by decide +kernel
theorem dX11_isIn_42 : decode cX11_isIn 42 = .ok (.goto 4, 3) := by decide +kernel
theorem dX11_isIn_45 : decode cX11_isIn 45 = .ok (.iconst 0, 1) := by decide +kernel
theorem dX11_isIn_46 : decode cX11_isIn 46 = .ok (.ireturn, 1) := by decide +kernel
theorem dX11_lay_0 : decode cX11_lay 0 = .ok (.iload_n 3, 1) := by decide +kernel
theorem dX11_lay_1 : decode cX11_lay 1 = .ok (.bipush 64, 2) := by decide +kernel
theorem dX11_lay_3 : decode cX11_lay 3 = .ok (.if_icmp .ge 16, 3) := by decide +kernel
theorem dX11_lay_6 : decode cX11_lay 6 = .ok (.aload_n 0, 1) := by decide +kernel
theorem dX11_lay_7 : decode cX11_lay 7 = .ok (.iload_n 2, 1) := by decide +kernel
theorem dX11_lay_8 : decode cX11_lay 8 = .ok (.aload_n 0, 1) := by decide +kernel
theorem dX11_lay_9 : decode cX11_lay 9 = .ok (.iload_n 2, 1) := by decide +kernel
theorem dX11_lay_10 : decode cX11_lay 10 = .ok (.laload, 1) := by decide +kernel
theorem dX11_lay_11 : decode cX11_lay 11 = .ok (.lconst 1, 1) := by decide +kernel
theorem dX11_lay_12 : decode cX11_lay 12 = .ok (.iload_n 3, 1) := by decide +kernel
theorem dX11_lay_13 : decode cX11_lay 13 = .ok (.lshl, 1) := by decide +kernel
theorem dX11_lay_14 : decode cX11_lay 14 = .ok (.lor, 1) := by decide +kernel
theorem dX11_lay_15 : decode cX11_lay 15 = .ok (.lastore, 1) := by decide +kernel
theorem dX11_lay_16 : decode cX11_lay 16 = .ok (.goto 16, 3) := by decide +kernel
theorem dX11_lay_19 : decode cX11_lay 19 = .ok (.aload_n 1, 1) := by decide +kernel
theorem dX11_lay_20 : decode cX11_lay 20 = .ok (.iload_n 2, 1) := by decide +kernel
theorem dX11_lay_21 : decode cX11_lay 21 = .ok (.aload_n 1, 1) := by decide +kernel
theorem dX11_lay_22 : decode cX11_lay 22 = .ok (.iload_n 2, 1) := by decide +kernel
theorem dX11_lay_23 : decode cX11_lay 23 = .ok (.laload, 1) := by decide +kernel
theorem dX11_lay_24 : decode cX11_lay 24 = .ok (.lconst 1, 1) := by decide +kernel
theorem dX11_lay_25 : decode cX11_lay 25 = .ok (.iload_n 3, 1) := by decide +kernel
theorem dX11_lay_26 : decode cX11_lay 26 = .ok (.bipush 64, 2) := by decide +kernel
theorem dX11_lay_28 : decode cX11_lay 28 = .ok (.isub, 1) := by decide +kernel
theorem dX11_lay_29 : decode cX11_lay 29 = .ok (.lshl, 1) := by decide +kernel
theorem dX11_lay_30 : decode cX11_lay 30 = .ok (.lor, 1) := by decide +kernel
theorem dX11_lay_31 : decode cX11_lay 31 = .ok (.lastore, 1) := by decide +kernel
theorem dX11_lay_32 : decode cX11_lay 32 = .ok (.return_, 1) := by decide +kernel
set_option maxRecDepth 20000 in
theorem ggX11_spread_X11_isIn : GoodIn wsX11_spread wsX11_isIn := goodIn_r _ [6] (by decide +kernel) (by decide +kernel)
set_option maxRecDepth 20000 in
theorem gX11_spread_X11_isIn : GoodIn wsX11_spread (va_wsS RX11 257 yX11_isIn wsX11_isIn) := goodIn_app (goodIn_of _ (by decide +kernel)) ggX11_spread_X11_isIn
set_option maxRecDepth 20000 in
theorem ggX11_spread_X11_restedBy : GoodIn wsX11_spread wsX11_restedBy := goodIn_r _ [10, 11, 12, 13, 14, 5, 15, 16, 17, 18, 19, 20, 21, 22, 23, 24, 25, 37, 38, 39, 40, 41, 42, 43, 44, 45, 46, 47, 48, 49, 50, 51, 52, 53, 54, 55, 56, 57, 58, 59, 60, 61, 62, 63, 64, 65, 66, 67, 68, 69, 70, 71, 72, 73, 74, 75] (by decide +kernel) (by decide +kernel)
set_option maxRecDepth 20000 in
theorem gX11_spread_X11_restedBy : GoodIn wsX11_spread (wsV RX11 234 RX11 yX11_restedBy wsX11_restedBy) := goodIn_app (goodIn_of _ (by decide +kernel)) ggX11_spread_X11_restedBy
set_option maxRecDepth 20000 in
theorem ggX11_spread_X11_lay : GoodIn wsX11_spread wsX11_lay := goodIn_r _ [28] (by decide +kernel) (by decide +kernel)
set_option maxRecDepth 20000 in
theorem gX11_spread_X11_lay : GoodIn wsX11_spread (va_wsS RX11 261 yX11_lay wsX11_lay) := goodIn_app (goodIn_of _ (by decide +kernel)) ggX11_spread_X11_lay
set_option maxRecDepth 20000 in
theorem ggX11_spread_X11_endOf : GoodIn wsX11_spread wsX11_endOf := goodIn_r _ [32, 2, 37, 38, 39, 40, 41, 42, 43, 44, 45, 46, 47, 48, 49, 50, 51, 52, 53, 54, 55, 56, 57, 58, 59, 60, 61, 62, 63, 64, 65, 66, 67, 68, 69, 70, 71, 72, 73, 74, 75] (by decide +kernel) (by decide +kernel)
set_option maxRecDepth 20000 in
theorem gX11_spread_X11_endOf : GoodIn wsX11_spread (wsV RX11 218 RX11 yX11_endOf wsX11_endOf) := goodIn_app (goodIn_of _ (by decide +kernel)) ggX11_spread_X11_endOf
set_option maxRecDepth 20000 in
theorem ggX11_spread_X11_comesBy : GoodIn wsX11_spread wsX11_comesBy := goodIn_r _ [36, 2, 12, 13, 14, 5, 15, 16, 17, 18, 19, 20, 21, 22, 23, 24, 25, 37, 38, 39, 40, 41, 42, 43, 44, 45, 46, 47, 48, 49, 50, 51, 52, 53, 54, 55, 56, 57, 58, 59, 60, 61, 62, 63, 64, 65, 66, 67, 68, 69, 70, 71, 72, 73, 74, 75] (by decide +kernel) (by decide +kernel)
set_option maxRecDepth 20000 in
theorem gX11_spread_X11_comesBy : GoodIn wsX11_spread (wsV RX11 238 RX11 yX11_comesBy wsX11_comesBy) := goodIn_app (goodIn_of _ (by decide +kernel)) ggX11_spread_X11_comesBy
theorem dX11_spread_0 : decode cX11_spread 0 = .ok (.iconst 0, 1) := by decide +kernel
theorem dX11_spread_1 : decode cX11_spread 1 = .ok (.istore 5, 2) := by decide +kernel
theorem dX11_spread_3 : decode cX11_spread 3 = .ok (.iload 5, 2) := by decide +kernel
theorem dX11_spread_5 : decode cX11_spread 5 = .ok (.sipush 336, 3) := by decide +kernel
theorem dX11_spread_8 : decode cX11_spread 8 = .ok (.if_icmp .ge 178, 3) := by decide +kernel
theorem dX11_spread_11 : decode cX11_spread 11 = .ok (.iload 5, 2) := by decide +kernel
theorem dX11_spread_13 : decode cX11_spread 13 = .ok (.bipush 7, 2) := by decide +kernel
theorem dX11_spread_15 : decode cX11_spread 15 = .ok (.idiv, 1) := by decide +kernel
theorem dX11_spread_16 : decode cX11_spread 16 = .ok (.istore 6, 2) := by decide +kernel
theorem dX11_spread_18 : decode cX11_spread 18 = .ok (.iload 5, 2) := by decide +kernel
theorem dX11_spread_20 : decode cX11_spread 20 = .ok (.bipush 7, 2) := by decide +kernel
theorem dX11_spread_22 : decode cX11_spread 22 = .ok (.irem, 1) := by decide +kernel
theorem dX11_spread_23 : decode cX11_spread 23 = .ok (.istore 7, 2) := by decide +kernel
theorem dX11_spread_25 : decode cX11_spread 25 = .ok (.aload_n 1, 1) := by decide +kernel
theorem dX11_spread_26 : decode cX11_spread 26 = .ok (.iload 5, 2) := by decide +kernel
theorem dX11_spread_28 : decode cX11_spread 28 = .ok (.laload, 1) := by decide +kernel
theorem dX11_spread_29 : decode cX11_spread 29 = .ok (.lconst 0, 1) := by decide +kernel
theorem dX11_spread_30 : decode cX11_spread 30 = .ok (.lcmp, 1) := by decide +kernel
theorem dX11_spread_31 : decode cX11_spread 31 = .ok (.ifCond .ne 15, 3) := by decide +kernel
theorem dX11_spread_34 : decode cX11_spread 34 = .ok (.aload_n 2, 1) := by decide +kernel
theorem dX11_spread_35 : decode cX11_spread 35 = .ok (.iload 5, 2) := by decide +kernel
theorem dX11_spread_37 : decode cX11_spread 37 = .ok (.laload, 1) := by decide +kernel
theorem dX11_spread_38 : decode cX11_spread 38 = .ok (.lconst 0, 1) := by decide +kernel
theorem dX11_spread_39 : decode cX11_spread 39 = .ok (.lcmp, 1) := by decide +kernel
theorem dX11_spread_40 : decode cX11_spread 40 = .ok (.ifCond .ne 6, 3) := by decide +kernel
theorem dX11_spread_43 : decode cX11_spread 43 = .ok (.goto 137, 3) := by decide +kernel
theorem dX11_spread_46 : decode cX11_spread 46 = .ok (.iconst 0, 1) := by decide +kernel
theorem dX11_spread_47 : decode cX11_spread 47 = .ok (.istore 8, 2) := by decide +kernel
theorem dX11_spread_49 : decode cX11_spread 49 = .ok (.iload 8, 2) := by decide +kernel
theorem dX11_spread_51 : decode cX11_spread 51 = .ok (.bipush 99, 2) := by decide +kernel
theorem dX11_spread_53 : decode cX11_spread 53 = .ok (.if_icmp .gt 127, 3) := by decide +kernel
theorem dX11_spread_56 : decode cX11_spread 56 = .ok (.aload_n 1, 1) := by decide +kernel
theorem dX11_spread_57 : decode cX11_spread 57 = .ok (.aload_n 2, 1) := by decide +kernel
theorem dX11_spread_58 : decode cX11_spread 58 = .ok (.iload 5, 2) := by decide +kernel
theorem dX11_spread_60 : decode cX11_spread 60 = .ok (.iload 8, 2) := by decide +kernel
theorem dX11_spread_62 : decode cX11_spread 62 = .ok (.invokestatic 257, 3) := by decide +kernel
theorem dX11_spread_65 : decode cX11_spread 65 = .ok (.ifCond .eq 109, 3) := by decide +kernel
theorem dX11_spread_68 : decode cX11_spread 68 = .ok (.aload_n 1, 1) := by decide +kernel
theorem dX11_spread_69 : decode cX11_spread 69 = .ok (.aload_n 2, 1) := by decide +kernel
theorem dX11_spread_70 : decode cX11_spread 70 = .ok (.iload 5, 2) := by decide +kernel
theorem dX11_spread_72 : decode cX11_spread 72 = .ok (.bipush 7, 2) := by decide +kernel
theorem dX11_spread_74 : decode cX11_spread 74 = .ok (.iadd, 1) := by decide +kernel
theorem dX11_spread_75 : decode cX11_spread 75 = .ok (.aload_n 0, 1) := by decide +kernel
theorem dX11_spread_76 : decode cX11_spread 76 = .ok (.iload 8, 2) := by decide +kernel
theorem dX11_spread_78 : decode cX11_spread 78 = .ok (.iload_n 3, 1) := by decide +kernel
theorem dX11_spread_79 : decode cX11_spread 79 = .ok (.iload 4, 2) := by decide +kernel
theorem dX11_spread_81 : decode cX11_spread 81 = .ok (.iload 6, 2) := by decide +kernel
theorem dX11_spread_83 : decode cX11_spread 83 = .ok (.iload 7, 2) := by decide +kernel
theorem dX11_spread_85 : decode cX11_spread 85 = .ok (.invokevirtual 234, 3) := by decide +kernel
theorem dX11_spread_88 : decode cX11_spread 88 = .ok (.invokestatic 261, 3) := by decide +kernel
theorem dX11_spread_91 : decode cX11_spread 91 = .ok (.iconst 0, 1) := by decide +kernel
theorem dX11_spread_92 : decode cX11_spread 92 = .ok (.istore 9, 2) := by decide +kernel
theorem dX11_spread_94 : decode cX11_spread 94 = .ok (.iload 9, 2) := by decide +kernel
theorem dX11_spread_96 : decode cX11_spread 96 = .ok (.aload_n 0, 1) := by decide +kernel
theorem dX11_spread_97 : decode cX11_spread 97 = .ok (.getfield 98, 3) := by decide +kernel
theorem dX11_spread_100 : decode cX11_spread 100 = .ok (.if_icmp .ge 74, 3) := by decide +kernel
theorem dX11_spread_103 : decode cX11_spread 103 = .ok (.aload_n 0, 1) := by decide +kernel
theorem dX11_spread_104 : decode cX11_spread 104 = .ok (.iload 9, 2) := by decide +kernel
theorem dX11_spread_106 : decode cX11_spread 106 = .ok (.iload 7, 2) := by decide +kernel
theorem dX11_spread_108 : decode cX11_spread 108 = .ok (.invokevirtual 218, 3) := by decide +kernel
theorem dX11_spread_111 : decode cX11_spread 111 = .ok (.istore 10, 2) := by decide +kernel
theorem dX11_spread_113 : decode cX11_spread 113 = .ok (.iload 6, 2) := by decide +kernel
theorem dX11_spread_115 : decode cX11_spread 115 = .ok (.aload_n 0, 1) := by decide +kernel
theorem dX11_spread_116 : decode cX11_spread 116 = .ok (.getfield 13, 3) := by decide +kernel
theorem dX11_spread_119 : decode cX11_spread 119 = .ok (.iconst 4, 1) := by decide +kernel
theorem dX11_spread_120 : decode cX11_spread 120 = .ok (.iload 9, 2) := by decide +kernel
theorem dX11_spread_122 : decode cX11_spread 122 = .ok (.imul, 1) := by decide +kernel
theorem dX11_spread_123 : decode cX11_spread 123 = .ok (.iconst 2, 1) := by decide +kernel
theorem dX11_spread_124 : decode cX11_spread 124 = .ok (.iadd, 1) := by decide +kernel
theorem dX11_spread_125 : decode cX11_spread 125 = .ok (.iaload, 1) := by decide +kernel
theorem dX11_spread_126 : decode cX11_spread 126 = .ok (.iadd, 1) := by decide +kernel
theorem dX11_spread_127 : decode cX11_spread 127 = .ok (.istore 11, 2) := by decide +kernel
theorem dX11_spread_129 : decode cX11_spread 129 = .ok (.iload 10, 2) := by decide +kernel
theorem dX11_spread_131 : decode cX11_spread 131 = .ok (.iconst (-1), 1) := by decide +kernel
theorem dX11_spread_132 : decode cX11_spread 132 = .ok (.if_icmp .eq 36, 3) := by decide +kernel
theorem dX11_spread_135 : decode cX11_spread 135 = .ok (.iload 11, 2) := by decide +kernel
theorem dX11_spread_137 : decode cX11_spread 137 = .ok (.bipush 48, 2) := by decide +kernel
theorem dX11_spread_139 : decode cX11_spread 139 = .ok (.if_icmp .gt 29, 3) := by decide +kernel
theorem dX11_spread_142 : decode cX11_spread 142 = .ok (.aload_n 1, 1) := by decide +kernel
theorem dX11_spread_143 : decode cX11_spread 143 = .ok (.aload_n 2, 1) := by decide +kernel
theorem dX11_spread_144 : decode cX11_spread 144 = .ok (.bipush 7, 2) := by decide +kernel
theorem dX11_spread_146 : decode cX11_spread 146 = .ok (.iload 11, 2) := by decide +kernel
theorem dX11_spread_148 : decode cX11_spread 148 = .ok (.imul, 1) := by decide +kernel
theorem dX11_spread_149 : decode cX11_spread 149 = .ok (.iload 10, 2) := by decide +kernel
theorem dX11_spread_151 : decode cX11_spread 151 = .ok (.iadd, 1) := by decide +kernel
theorem dX11_spread_152 : decode cX11_spread 152 = .ok (.aload_n 0, 1) := by decide +kernel
theorem dX11_spread_153 : decode cX11_spread 153 = .ok (.iload 9, 2) := by decide +kernel
theorem dX11_spread_155 : decode cX11_spread 155 = .ok (.iload 8, 2) := by decide +kernel
theorem dX11_spread_157 : decode cX11_spread 157 = .ok (.iload_n 3, 1) := by decide +kernel
theorem dX11_spread_158 : decode cX11_spread 158 = .ok (.iload 4, 2) := by decide +kernel
theorem dX11_spread_160 : decode cX11_spread 160 = .ok (.iload 6, 2) := by decide +kernel
theorem dX11_spread_162 : decode cX11_spread 162 = .ok (.invokevirtual 238, 3) := by decide +kernel
theorem dX11_spread_165 : decode cX11_spread 165 = .ok (.invokestatic 261, 3) := by decide +kernel
theorem dX11_spread_168 : decode cX11_spread 168 = .ok (.iinc 9 1, 3) := by decide +kernel
theorem dX11_spread_171 : decode cX11_spread 171 = .ok (.goto (-77), 3) := by decide +kernel
theorem dX11_spread_174 : decode cX11_spread 174 = .ok (.iinc 8 1, 3) := by decide +kernel
theorem dX11_spread_177 : decode cX11_spread 177 = .ok (.goto (-128), 3) := by decide +kernel
theorem dX11_spread_180 : decode cX11_spread 180 = .ok (.iinc 5 1, 3) := by decide +kernel
theorem dX11_spread_183 : decode cX11_spread 183 = .ok (.goto (-180), 3) := by decide +kernel
theorem dX11_spread_186 : decode cX11_spread 186 = .ok (.return_, 1) := by decide +kernel
theorem dX11_clear_0 : decode cX11_clear 0 = .ok (.iconst 0, 1) := by decide +kernel
theorem dX11_clear_1 : decode cX11_clear 1 = .ok (.istore_n 2, 1) := by decide +kernel
theorem dX11_clear_2 : decode cX11_clear 2 = .ok (.iload_n 2, 1) := by decide +kernel
theorem dX11_clear_3 : decode cX11_clear 3 = .ok (.sipush 343, 3) := by decide +kernel
theorem dX11_clear_6 : decode cX11_clear 6 = .ok (.if_icmp .ge 17, 3) := by decide +kernel
theorem dX11_clear_9 : decode cX11_clear 9 = .ok (.aload_n 0, 1) := by decide +kernel
theorem dX11_clear_10 : decode cX11_clear 10 = .ok (.iload_n 2, 1) := by decide +kernel
theorem dX11_clear_11 : decode cX11_clear 11 = .ok (.lconst 0, 1) := by decide +kernel
theorem dX11_clear_12 : decode cX11_clear 12 = .ok (.lastore, 1) := by decide +kernel
theorem dX11_clear_13 : decode cX11_clear 13 = .ok (.aload_n 1, 1) := by decide +kernel
theorem dX11_clear_14 : decode cX11_clear 14 = .ok (.iload_n 2, 1) := by decide +kernel
theorem dX11_clear_15 : decode cX11_clear 15 = .ok (.lconst 0, 1) := by decide +kernel
theorem dX11_clear_16 : decode cX11_clear 16 = .ok (.lastore, 1) := by decide +kernel
theorem dX11_clear_17 : decode cX11_clear 17 = .ok (.iinc 2 1, 3) := by decide +kernel
theorem dX11_clear_20 : decode cX11_clear 20 = .ok (.goto (-18), 3) := by decide +kernel
theorem dX11_clear_23 : decode cX11_clear 23 = .ok (.return_, 1) := by decide +kernel
set_option maxRecDepth 20000 in
theorem ggX11_layFrom_X11_clear : GoodIn wsX11_layFrom wsX11_clear := goodIn_r _ [5] (by decide +kernel) (by decide +kernel)
set_option maxRecDepth 20000 in
theorem gX11_layFrom_X11_clear : GoodIn wsX11_layFrom (va_wsS RX11 265 yX11_clear wsX11_clear) := goodIn_app (goodIn_of _ (by decide +kernel)) ggX11_layFrom_X11_clear
set_option maxRecDepth 20000 in
theorem ggX11_layFrom_X11_lay : GoodIn wsX11_layFrom wsX11_lay := goodIn_r _ [8] (by decide +kernel) (by decide +kernel)
set_option maxRecDepth 20000 in
theorem gX11_layFrom_X11_lay : GoodIn wsX11_layFrom (va_wsS RX11 261 yX11_lay wsX11_lay) := goodIn_app (goodIn_of _ (by decide +kernel)) ggX11_layFrom_X11_lay
set_option maxRecDepth 20000 in
theorem ggX11_layFrom_X11_kindOf : GoodIn wsX11_layFrom wsX11_kindOf := goodIn_r _ [12, 13, 50, 51, 52, 53, 54, 55, 56, 57, 58, 59, 60, 61, 62, 63, 64, 65, 66, 67, 68, 69, 70, 71, 72, 73, 74, 75, 76, 77, 78, 79, 80, 81, 82, 83, 84, 85, 86, 87, 88] (by decide +kernel) (by decide +kernel)
set_option maxRecDepth 20000 in
theorem gX11_layFrom_X11_kindOf : GoodIn wsX11_layFrom (wsV RX11 228 RX11 yX11_kindOf wsX11_kindOf) := goodIn_app (goodIn_of _ (by decide +kernel)) ggX11_layFrom_X11_kindOf
set_option maxRecDepth 20000 in
theorem ggX11_layFrom_X11_spread : GoodIn wsX11_layFrom wsX11_spread := goodIn_r _ [17, 18, 19, 20, 21, 4, 22, 23, 24, 25, 26, 27, 28, 29, 30, 31, 32, 33, 34, 35, 36, 37, 38, 39, 40, 41, 6, 7, 8, 42, 43, 44, 45, 46, 47, 48, 49, 50, 51, 52, 53, 54, 55, 56, 57, 58, 59, 60, 61, 62, 63, 64, 65, 66, 67, 68, 69, 70, 71, 72, 73, 74, 75, 76, 77, 78, 79, 80, 81, 82, 83, 84, 85, 86, 87, 88] (by decide +kernel) (by decide +kernel)
set_option maxRecDepth 20000 in
theorem gX11_layFrom_X11_spread : GoodIn wsX11_layFrom (wsV RX11 269 RX11 yX11_spread wsX11_spread) := goodIn_app (goodIn_of _ (by decide +kernel)) ggX11_layFrom_X11_spread
theorem dX11_layFrom_0 : decode cX11_layFrom 0 = .ok (.aload_n 1, 1) := by decide +kernel
theorem dX11_layFrom_1 : decode cX11_layFrom 1 = .ok (.aload_n 2, 1) := by decide +kernel
theorem dX11_layFrom_2 : decode cX11_layFrom 2 = .ok (.invokestatic 265, 3) := by decide +kernel
theorem dX11_layFrom_5 : decode cX11_layFrom 5 = .ok (.aload_n 1, 1) := by decide +kernel
theorem dX11_layFrom_6 : decode cX11_layFrom 6 = .ok (.aload_n 2, 1) := by decide +kernel
theorem dX11_layFrom_7 : decode cX11_layFrom 7 = .ok (.bipush 7, 2) := by decide +kernel
theorem dX11_layFrom_9 : decode cX11_layFrom 9 = .ok (.aload_n 0, 1) := by decide +kernel
theorem dX11_layFrom_10 : decode cX11_layFrom 10 = .ok (.getfield 25, 3) := by decide +kernel
theorem dX11_layFrom_13 : decode cX11_layFrom 13 = .ok (.iconst 4, 1) := by decide +kernel
theorem dX11_layFrom_14 : decode cX11_layFrom 14 = .ok (.iload_n 3, 1) := by decide +kernel
theorem dX11_layFrom_15 : decode cX11_layFrom 15 = .ok (.iadd, 1) := by decide +kernel
theorem dX11_layFrom_16 : decode cX11_layFrom 16 = .ok (.iaload, 1) := by decide +kernel
theorem dX11_layFrom_17 : decode cX11_layFrom 17 = .ok (.imul, 1) := by decide +kernel
theorem dX11_layFrom_18 : decode cX11_layFrom 18 = .ok (.aload_n 0, 1) := by decide +kernel
theorem dX11_layFrom_19 : decode cX11_layFrom 19 = .ok (.getfield 25, 3) := by decide +kernel
theorem dX11_layFrom_22 : decode cX11_layFrom 22 = .ok (.iload_n 3, 1) := by decide +kernel
theorem dX11_layFrom_23 : decode cX11_layFrom 23 = .ok (.iaload, 1) := by decide +kernel
theorem dX11_layFrom_24 : decode cX11_layFrom 24 = .ok (.iadd, 1) := by decide +kernel
theorem dX11_layFrom_25 : decode cX11_layFrom 25 = .ok (.aload_n 0, 1) := by decide +kernel
theorem dX11_layFrom_26 : decode cX11_layFrom 26 = .ok (.getfield 25, 3) := by decide +kernel
theorem dX11_layFrom_29 : decode cX11_layFrom 29 = .ok (.bipush 8, 2) := by decide +kernel
theorem dX11_layFrom_31 : decode cX11_layFrom 31 = .ok (.iload_n 3, 1) := by decide +kernel
theorem dX11_layFrom_32 : decode cX11_layFrom 32 = .ok (.iadd, 1) := by decide +kernel
theorem dX11_layFrom_33 : decode cX11_layFrom 33 = .ok (.iaload, 1) := by decide +kernel
theorem dX11_layFrom_34 : decode cX11_layFrom 34 = .ok (.invokestatic 261, 3) := by decide +kernel
theorem dX11_layFrom_37 : decode cX11_layFrom 37 = .ok (.aload_n 0, 1) := by decide +kernel
theorem dX11_layFrom_38 : decode cX11_layFrom 38 = .ok (.aload_n 1, 1) := by decide +kernel
theorem dX11_layFrom_39 : decode cX11_layFrom 39 = .ok (.aload_n 2, 1) := by decide +kernel
theorem dX11_layFrom_40 : decode cX11_layFrom 40 = .ok (.aload_n 0, 1) := by decide +kernel
theorem dX11_layFrom_41 : decode cX11_layFrom 41 = .ok (.iload_n 3, 1) := by decide +kernel
theorem dX11_layFrom_42 : decode cX11_layFrom 42 = .ok (.invokevirtual 228, 3) := by decide +kernel
theorem dX11_layFrom_45 : decode cX11_layFrom 45 = .ok (.iload 4, 2) := by decide +kernel
theorem dX11_layFrom_47 : decode cX11_layFrom 47 = .ok (.invokevirtual 269, 3) := by decide +kernel
theorem dX11_layFrom_50 : decode cX11_layFrom 50 = .ok (.return_, 1) := by decide +kernel
set_option maxRecDepth 20000 in
theorem ggX11_mostIn_X11_isIn : GoodIn wsX11_mostIn wsX11_isIn := goodIn_r _ [4] (by decide +kernel) (by decide +kernel)
set_option maxRecDepth 20000 in
theorem gX11_mostIn_X11_isIn : GoodIn wsX11_mostIn (va_wsS RX11 257 yX11_isIn wsX11_isIn) := goodIn_app (goodIn_of _ (by decide +kernel)) ggX11_mostIn_X11_isIn
theorem dX11_mostIn_0 : decode cX11_mostIn 0 = .ok (.iconst (-1), 1) := by decide +kernel
theorem dX11_mostIn_1 : decode cX11_mostIn 1 = .ok (.istore 5, 2) := by decide +kernel
theorem dX11_mostIn_3 : decode cX11_mostIn 3 = .ok (.iconst 0, 1) := by decide +kernel
theorem dX11_mostIn_4 : decode cX11_mostIn 4 = .ok (.istore 6, 2) := by decide +kernel
theorem dX11_mostIn_6 : decode cX11_mostIn 6 = .ok (.iload 6, 2) := by decide +kernel
theorem dX11_mostIn_8 : decode cX11_mostIn 8 = .ok (.iload 4, 2) := by decide +kernel
theorem dX11_mostIn_10 : decode cX11_mostIn 10 = .ok (.if_icmp .gt 52, 3) := by decide +kernel
theorem dX11_mostIn_13 : decode cX11_mostIn 13 = .ok (.bipush 99, 2) := by decide +kernel
theorem dX11_mostIn_15 : decode cX11_mostIn 15 = .ok (.istore 7, 2) := by decide +kernel
theorem dX11_mostIn_17 : decode cX11_mostIn 17 = .ok (.iload 7, 2) := by decide +kernel
theorem dX11_mostIn_19 : decode cX11_mostIn 19 = .ok (.iload 5, 2) := by decide +kernel
theorem dX11_mostIn_21 : decode cX11_mostIn 21 = .ok (.if_icmp .le 35, 3) := by decide +kernel
theorem dX11_mostIn_24 : decode cX11_mostIn 24 = .ok (.aload_n 1, 1) := by decide +kernel
theorem dX11_mostIn_25 : decode cX11_mostIn 25 = .ok (.aload_n 2, 1) := by decide +kernel
theorem dX11_mostIn_26 : decode cX11_mostIn 26 = .ok (.bipush 7, 2) := by decide +kernel
theorem dX11_mostIn_28 : decode cX11_mostIn 28 = .ok (.iload 6, 2) := by decide +kernel
theorem dX11_mostIn_30 : decode cX11_mostIn 30 = .ok (.imul, 1) := by decide +kernel
theorem dX11_mostIn_31 : decode cX11_mostIn 31 = .ok (.iload_n 3, 1) := by decide +kernel
theorem dX11_mostIn_32 : decode cX11_mostIn 32 = .ok (.iadd, 1) := by decide +kernel
theorem dX11_mostIn_33 : decode cX11_mostIn 33 = .ok (.iload 7, 2) := by decide +kernel
theorem dX11_mostIn_35 : decode cX11_mostIn 35 = .ok (.invokestatic 257, 3) := by decide +kernel
theorem dX11_mostIn_38 : decode cX11_mostIn 38 = .ok (.ifCond .eq 8, 3) := by decide +kernel
theorem dX11_mostIn_41 : decode cX11_mostIn 41 = .ok (.iload 7, 2) := by decide +kernel
theorem dX11_mostIn_43 : decode cX11_mostIn 43 = .ok (.goto 5, 3) := by decide +kernel
theorem dX11_mostIn_46 : decode cX11_mostIn 46 = .ok (.iload 5, 2) := by decide +kernel
theorem dX11_mostIn_48 : decode cX11_mostIn 48 = .ok (.istore 5, 2) := by decide +kernel
theorem dX11_mostIn_50 : decode cX11_mostIn 50 = .ok (.iinc 7 (-1), 3) := by decide +kernel
theorem dX11_mostIn_53 : decode cX11_mostIn 53 = .ok (.goto (-36), 3) := by decide +kernel
theorem dX11_mostIn_56 : decode cX11_mostIn 56 = .ok (.iinc 6 1, 3) := by decide +kernel
theorem dX11_mostIn_59 : decode cX11_mostIn 59 = .ok (.goto (-53), 3) := by decide +kernel
theorem dX11_mostIn_62 : decode cX11_mostIn 62 = .ok (.iload 5, 2) := by decide +kernel
theorem dX11_mostIn_64 : decode cX11_mostIn 64 = .ok (.ireturn, 1) := by decide +kernel
set_option maxRecDepth 20000 in
theorem ggX11_soonestIn_X11_isIn : GoodIn wsX11_soonestIn wsX11_isIn := goodIn_r _ [4] (by decide +kernel) (by decide +kernel)
set_option maxRecDepth 20000 in
theorem gX11_soonestIn_X11_isIn : GoodIn wsX11_soonestIn (va_wsS RX11 257 yX11_isIn wsX11_isIn) := goodIn_app (goodIn_of _ (by decide +kernel)) ggX11_soonestIn_X11_isIn
theorem dX11_soonestIn_0 : decode cX11_soonestIn 0 = .ok (.iconst 0, 1) := by decide +kernel
theorem dX11_soonestIn_1 : decode cX11_soonestIn 1 = .ok (.istore 5, 2) := by decide +kernel
theorem dX11_soonestIn_3 : decode cX11_soonestIn 3 = .ok (.aload_n 1, 1) := by decide +kernel
theorem dX11_soonestIn_4 : decode cX11_soonestIn 4 = .ok (.aload_n 2, 1) := by decide +kernel
theorem dX11_soonestIn_5 : decode cX11_soonestIn 5 = .ok (.bipush 7, 2) := by decide +kernel
theorem dX11_soonestIn_7 : decode cX11_soonestIn 7 = .ok (.iload 5, 2) := by decide +kernel
theorem dX11_soonestIn_9 : decode cX11_soonestIn 9 = .ok (.imul, 1) := by decide +kernel
theorem dX11_soonestIn_10 : decode cX11_soonestIn 10 = .ok (.iload_n 3, 1) := by decide +kernel
theorem dX11_soonestIn_11 : decode cX11_soonestIn 11 = .ok (.iadd, 1) := by decide +kernel
theorem dX11_soonestIn_12 : decode cX11_soonestIn 12 = .ok (.iload 4, 2) := by decide +kernel
theorem dX11_soonestIn_14 : decode cX11_soonestIn 14 = .ok (.invokestatic 257, 3) := by decide +kernel
theorem dX11_soonestIn_17 : decode cX11_soonestIn 17 = .ok (.ifCond .ne 9, 3) := by decide +kernel
theorem dX11_soonestIn_20 : decode cX11_soonestIn 20 = .ok (.iinc 5 1, 3) := by decide +kernel
theorem dX11_soonestIn_23 : decode cX11_soonestIn 23 = .ok (.goto (-20), 3) := by decide +kernel
theorem dX11_soonestIn_26 : decode cX11_soonestIn 26 = .ok (.iload 5, 2) := by decide +kernel
theorem dX11_soonestIn_28 : decode cX11_soonestIn 28 = .ok (.ireturn, 1) := by decide +kernel
set_option maxRecDepth 20000 in
theorem ggX11_comes_X11_isCart : GoodIn wsX11_comes wsX11_isCart := goodIn_r _ [7, 8, 9, 10, 6, 11, 78, 79, 80, 81, 82, 83, 84, 85, 86, 87, 88, 89, 90, 91, 92, 93, 94, 95, 96, 97, 98, 99, 100, 101, 102, 103, 104, 105, 106, 107, 108, 109, 110, 111, 112, 113, 114, 115, 116] (by decide +kernel) (by decide +kernel)
set_option maxRecDepth 20000 in
theorem gX11_comes_X11_isCart : GoodIn wsX11_comes (wsV RX11 225 RX11 yX11_isCart wsX11_isCart) := goodIn_app (goodIn_of _ (by decide +kernel)) ggX11_comes_X11_isCart
set_option maxRecDepth 20000 in
theorem ggX11_comes_X11_isPlace : GoodIn wsX11_comes wsX11_isPlace := goodIn_r _ [15, 16, 9, 10, 6, 11, 78, 79, 80, 81, 82, 83, 84, 85, 86, 87, 88, 89, 90, 91, 92, 93, 94, 95, 96, 97, 98, 99, 100, 101, 102, 103, 104, 105, 106, 107, 108, 109, 110, 111, 112, 113, 114, 115, 116] (by decide +kernel) (by decide +kernel)
set_option maxRecDepth 20000 in
theorem gX11_comes_X11_isPlace : GoodIn wsX11_comes (wsV RX11 215 RX11 yX11_isPlace wsX11_isPlace) := goodIn_app (goodIn_of _ (by decide +kernel)) ggX11_comes_X11_isPlace
set_option maxRecDepth 20000 in
theorem ggX11_comes_X11_in : GoodIn wsX11_comes wsX11_in := goodIn_r _ [11] (by decide +kernel) (by decide +kernel)
set_option maxRecDepth 20000 in
theorem gX11_comes_X11_in : GoodIn wsX11_comes (va_wsS RX11 94 yX11_in wsX11_in) := goodIn_app (goodIn_of _ (by decide +kernel)) ggX11_comes_X11_in
set_option maxRecDepth 20000 in
theorem ggX11_comes_X11_strawOf : GoodIn wsX11_comes wsX11_strawOf := goodIn_r _ [20, 21, 78, 79, 80, 81, 82, 83, 84, 85, 86, 87, 88, 89, 90, 91, 92, 93, 94, 95, 96, 97, 98, 99, 100, 101, 102, 103, 104, 105, 106, 107, 108, 109, 110, 111, 112, 113, 114, 115, 116] (by decide +kernel) (by decide +kernel)
set_option maxRecDepth 20000 in
theorem gX11_comes_X11_strawOf : GoodIn wsX11_comes (wsV RX11 231 RX11 yX11_strawOf wsX11_strawOf) := goodIn_app (goodIn_of _ (by decide +kernel)) ggX11_comes_X11_strawOf
set_option maxRecDepth 20000 in
theorem ggX11_comes_X11_layFrom : GoodIn wsX11_comes wsX11_layFrom := goodIn_r _ [25, 26, 27, 28, 6, 29, 30, 31, 32, 33, 34, 35, 36, 21, 37, 38, 39, 40, 41, 42, 43, 44, 45, 46, 47, 48, 49, 50, 51, 52, 53, 54, 55, 56, 57, 58, 59, 60, 61, 9, 10, 11, 62, 63, 64, 65, 66, 67, 68, 69, 78, 79, 80, 81, 82, 83, 84, 85, 86, 87, 88, 89, 90, 91, 92, 93, 94, 95, 96, 97, 98, 99, 100, 101, 102, 103, 104, 105, 106, 107, 108, 109, 110, 111, 112, 113, 114, 115, 116] (by decide +kernel) (by decide +kernel)
set_option maxRecDepth 20000 in
theorem gX11_comes_X11_layFrom : GoodIn wsX11_comes (wsV RX11 272 RX11 yX11_layFrom wsX11_layFrom) := goodIn_app (goodIn_of _ (by decide +kernel)) ggX11_comes_X11_layFrom
set_option maxRecDepth 20000 in
theorem ggX11_comes_X11_mostIn : GoodIn wsX11_comes wsX11_mostIn := goodIn_r _ [73, 43, 44, 6, 45] (by decide +kernel) (by decide +kernel)
set_option maxRecDepth 20000 in
theorem gX11_comes_X11_mostIn : GoodIn wsX11_comes (wsV RX11 275 RX11 yX11_mostIn wsX11_mostIn) := goodIn_app (goodIn_of _ (by decide +kernel)) ggX11_comes_X11_mostIn
set_option maxRecDepth 20000 in
theorem ggX11_comes_X11_soonestIn : GoodIn wsX11_comes wsX11_soonestIn := goodIn_r _ [77, 43, 44, 6, 45] (by decide +kernel) (by decide +kernel)
set_option maxRecDepth 20000 in
theorem gX11_comes_X11_soonestIn : GoodIn wsX11_comes (wsV RX11 279 RX11 yX11_soonestIn wsX11_soonestIn) := goodIn_app (goodIn_of _ (by decide +kernel)) ggX11_comes_X11_soonestIn
set_option maxRecDepth 20000 in
theorem ggX11_comes_X11_isIn : GoodIn wsX11_comes wsX11_isIn := goodIn_r _ [45] (by decide +kernel) (by decide +kernel)
set_option maxRecDepth 20000 in
theorem gX11_comes_X11_isIn : GoodIn wsX11_comes (va_wsS RX11 257 yX11_isIn wsX11_isIn) := goodIn_app (goodIn_of _ (by decide +kernel)) ggX11_comes_X11_isIn
theorem dX11_comes_0 : decode cX11_comes 0 = .ok (.aload_n 0, 1) := by decide +kernel
theorem dX11_comes_1 : decode cX11_comes 1 = .ok (.iload_n 1, 1) := by decide +kernel
theorem dX11_comes_2 : decode cX11_comes 2 = .ok (.invokevirtual 225, 3) := by decide +kernel
theorem dX11_comes_5 : decode cX11_comes 5 = .ok (.ifCond .eq 11, 3) := by decide +kernel
theorem dX11_comes_8 : decode cX11_comes 8 = .ok (.aload_n 0, 1) := by decide +kernel
theorem dX11_comes_9 : decode cX11_comes 9 = .ok (.iload_n 2, 1) := by decide +kernel
theorem dX11_comes_10 : decode cX11_comes 10 = .ok (.invokevirtual 215, 3) := by decide +kernel
theorem dX11_comes_13 : decode cX11_comes 13 = .ok (.ifCond .ne 6, 3) := by decide +kernel
theorem dX11_comes_16 : decode cX11_comes 16 = .ok (.bipush (-2), 2) := by decide +kernel
theorem dX11_comes_18 : decode cX11_comes 18 = .ok (.ireturn, 1) := by decide +kernel
theorem dX11_comes_19 : decode cX11_comes 19 = .ok (.iload_n 3, 1) := by decide +kernel
theorem dX11_comes_20 : decode cX11_comes 20 = .ok (.iconst 0, 1) := by decide +kernel
theorem dX11_comes_21 : decode cX11_comes 21 = .ok (.iconst 2, 1) := by decide +kernel
theorem dX11_comes_22 : decode cX11_comes 22 = .ok (.invokestatic 94, 3) := by decide +kernel
theorem dX11_comes_25 : decode cX11_comes 25 = .ok (.ifCond .ne 6, 3) := by decide +kernel
theorem dX11_comes_28 : decode cX11_comes 28 = .ok (.bipush (-3), 2) := by decide +kernel
theorem dX11_comes_30 : decode cX11_comes 30 = .ok (.ireturn, 1) := by decide +kernel
theorem dX11_comes_31 : decode cX11_comes 31 = .ok (.aload_n 0, 1) := by decide +kernel
theorem dX11_comes_32 : decode cX11_comes 32 = .ok (.aload_n 0, 1) := by decide +kernel
theorem dX11_comes_33 : decode cX11_comes 33 = .ok (.getfield 44, 3) := by decide +kernel
theorem dX11_comes_36 : decode cX11_comes 36 = .ok (.aload_n 0, 1) := by decide +kernel
theorem dX11_comes_37 : decode cX11_comes 37 = .ok (.getfield 48, 3) := by decide +kernel
theorem dX11_comes_40 : decode cX11_comes 40 = .ok (.iload_n 1, 1) := by decide +kernel
theorem dX11_comes_41 : decode cX11_comes 41 = .ok (.aload_n 0, 1) := by decide +kernel
theorem dX11_comes_42 : decode cX11_comes 42 = .ok (.iload_n 1, 1) := by decide +kernel
theorem dX11_comes_43 : decode cX11_comes 43 = .ok (.invokevirtual 231, 3) := by decide +kernel
theorem dX11_comes_46 : decode cX11_comes 46 = .ok (.invokevirtual 272, 3) := by decide +kernel
theorem dX11_comes_49 : decode cX11_comes 49 = .ok (.aload_n 0, 1) := by decide +kernel
theorem dX11_comes_50 : decode cX11_comes 50 = .ok (.aload_n 0, 1) := by decide +kernel
theorem dX11_comes_51 : decode cX11_comes 51 = .ok (.getfield 44, 3) := by decide +kernel
theorem dX11_comes_54 : decode cX11_comes 54 = .ok (.aload_n 0, 1) := by decide +kernel
theorem dX11_comes_55 : decode cX11_comes 55 = .ok (.getfield 48, 3) := by decide +kernel
theorem dX11_comes_58 : decode cX11_comes 58 = .ok (.iload_n 2, 1) := by decide +kernel
theorem dX11_comes_59 : decode cX11_comes 59 = .ok (.bipush 48, 2) := by decide +kernel
theorem dX11_comes_61 : decode cX11_comes 61 = .ok (.invokevirtual 275, 3) := by decide +kernel
theorem dX11_comes_64 : decode cX11_comes 64 = .ok (.istore 4, 2) := by decide +kernel
theorem dX11_comes_66 : decode cX11_comes 66 = .ok (.iload 4, 2) := by decide +kernel
theorem dX11_comes_68 : decode cX11_comes 68 = .ok (.iconst (-1), 1) := by decide +kernel
theorem dX11_comes_69 : decode cX11_comes 69 = .ok (.if_icmp .eq 7, 3) := by decide +kernel
theorem dX11_comes_72 : decode cX11_comes 72 = .ok (.iload_n 3, 1) := by decide +kernel
theorem dX11_comes_73 : decode cX11_comes 73 = .ok (.ifCond .ne 6, 3) := by decide +kernel
theorem dX11_comes_76 : decode cX11_comes 76 = .ok (.iload 4, 2) := by decide +kernel
theorem dX11_comes_78 : decode cX11_comes 78 = .ok (.ireturn, 1) := by decide +kernel
theorem dX11_comes_79 : decode cX11_comes 79 = .ok (.iload_n 3, 1) := by decide +kernel
theorem dX11_comes_80 : decode cX11_comes 80 = .ok (.iconst 1, 1) := by decide +kernel
theorem dX11_comes_81 : decode cX11_comes 81 = .ok (.if_icmp .ne 19, 3) := by decide +kernel
theorem dX11_comes_84 : decode cX11_comes 84 = .ok (.aload_n 0, 1) := by decide +kernel
theorem dX11_comes_85 : decode cX11_comes 85 = .ok (.aload_n 0, 1) := by decide +kernel
theorem dX11_comes_86 : decode cX11_comes 86 = .ok (.getfield 44, 3) := by decide +kernel
theorem dX11_comes_89 : decode cX11_comes 89 = .ok (.aload_n 0, 1) := by decide +kernel
theorem dX11_comes_90 : decode cX11_comes 90 = .ok (.getfield 48, 3) := by decide +kernel
theorem dX11_comes_93 : decode cX11_comes 93 = .ok (.iload_n 2, 1) := by decide +kernel
theorem dX11_comes_94 : decode cX11_comes 94 = .ok (.iload 4, 2) := by decide +kernel
theorem dX11_comes_96 : decode cX11_comes 96 = .ok (.invokevirtual 279, 3) := by decide +kernel
theorem dX11_comes_99 : decode cX11_comes 99 = .ok (.ireturn, 1) := by decide +kernel
theorem dX11_comes_100 : decode cX11_comes 100 = .ok (.iconst 0, 1) := by decide +kernel
theorem dX11_comes_101 : decode cX11_comes 101 = .ok (.istore 5, 2) := by decide +kernel
theorem dX11_comes_103 : decode cX11_comes 103 = .ok (.iconst 0, 1) := by decide +kernel
theorem dX11_comes_104 : decode cX11_comes 104 = .ok (.istore 6, 2) := by decide +kernel
theorem dX11_comes_106 : decode cX11_comes 106 = .ok (.iload 6, 2) := by decide +kernel
theorem dX11_comes_108 : decode cX11_comes 108 = .ok (.bipush 99, 2) := by decide +kernel
theorem dX11_comes_110 : decode cX11_comes 110 = .ok (.if_icmp .gt 78, 3) := by decide +kernel
theorem dX11_comes_113 : decode cX11_comes 113 = .ok (.iconst 0, 1) := by decide +kernel
theorem dX11_comes_114 : decode cX11_comes 114 = .ok (.istore 7, 2) := by decide +kernel
theorem dX11_comes_116 : decode cX11_comes 116 = .ok (.iconst 0, 1) := by decide +kernel
theorem dX11_comes_117 : decode cX11_comes 117 = .ok (.istore 8, 2) := by decide +kernel
theorem dX11_comes_119 : decode cX11_comes 119 = .ok (.iload 8, 2) := by decide +kernel
theorem dX11_comes_121 : decode cX11_comes 121 = .ok (.bipush 48, 2) := by decide +kernel
theorem dX11_comes_123 : decode cX11_comes 123 = .ok (.if_icmp .gt 44, 3) := by decide +kernel
theorem dX11_comes_126 : decode cX11_comes 126 = .ok (.iload 7, 2) := by decide +kernel
theorem dX11_comes_128 : decode cX11_comes 128 = .ok (.ifCond .ne 26, 3) := by decide +kernel
theorem dX11_comes_131 : decode cX11_comes 131 = .ok (.aload_n 0, 1) := by decide +kernel
theorem dX11_comes_132 : decode cX11_comes 132 = .ok (.getfield 44, 3) := by decide +kernel
theorem dX11_comes_135 : decode cX11_comes 135 = .ok (.aload_n 0, 1) := by decide +kernel
theorem dX11_comes_136 : decode cX11_comes 136 = .ok (.getfield 48, 3) := by decide +kernel
theorem dX11_comes_139 : decode cX11_comes 139 = .ok (.bipush 7, 2) := by decide +kernel
theorem dX11_comes_141 : decode cX11_comes 141 = .ok (.iload 8, 2) := by decide +kernel
theorem dX11_comes_143 : decode cX11_comes 143 = .ok (.imul, 1) := by decide +kernel
theorem dX11_comes_144 : decode cX11_comes 144 = .ok (.iload_n 2, 1) := by decide +kernel
theorem dX11_comes_145 : decode cX11_comes 145 = .ok (.iadd, 1) := by decide +kernel
theorem dX11_comes_146 : decode cX11_comes 146 = .ok (.iload 6, 2) := by decide +kernel
theorem dX11_comes_148 : decode cX11_comes 148 = .ok (.invokestatic 257, 3) := by decide +kernel
theorem dX11_comes_151 : decode cX11_comes 151 = .ok (.ifCond .eq 7, 3) := by decide +kernel
theorem dX11_comes_154 : decode cX11_comes 154 = .ok (.iconst 1, 1) := by decide +kernel
theorem dX11_comes_155 : decode cX11_comes 155 = .ok (.goto 4, 3) := by decide +kernel
theorem dX11_comes_158 : decode cX11_comes 158 = .ok (.iconst 0, 1) := by decide +kernel
theorem dX11_comes_159 : decode cX11_comes 159 = .ok (.istore 7, 2) := by decide +kernel
theorem dX11_comes_161 : decode cX11_comes 161 = .ok (.iinc 8 1, 3) := by decide +kernel
theorem dX11_comes_164 : decode cX11_comes 164 = .ok (.goto (-45), 3) := by decide +kernel
theorem dX11_comes_167 : decode cX11_comes 167 = .ok (.iload 5, 2) := by decide +kernel
theorem dX11_comes_169 : decode cX11_comes 169 = .ok (.iload 7, 2) := by decide +kernel
theorem dX11_comes_171 : decode cX11_comes 171 = .ok (.ifCond .eq 7, 3) := by decide +kernel
theorem dX11_comes_174 : decode cX11_comes 174 = .ok (.iconst 1, 1) := by decide +kernel
theorem dX11_comes_175 : decode cX11_comes 175 = .ok (.goto 4, 3) := by decide +kernel
theorem dX11_comes_178 : decode cX11_comes 178 = .ok (.iconst 0, 1) := by decide +kernel
theorem dX11_comes_179 : decode cX11_comes 179 = .ok (.iadd, 1) := by decide +kernel
theorem dX11_comes_180 : decode cX11_comes 180 = .ok (.istore 5, 2) := by decide +kernel
theorem dX11_comes_182 : decode cX11_comes 182 = .ok (.iinc 6 1, 3) := by decide +kernel
theorem dX11_comes_185 : decode cX11_comes 185 = .ok (.goto (-79), 3) := by decide +kernel
theorem dX11_comes_188 : decode cX11_comes 188 = .ok (.iload 5, 2) := by decide +kernel
theorem dX11_comes_190 : decode cX11_comes 190 = .ok (.ireturn, 1) := by decide +kernel
set_option maxRecDepth 20000 in
theorem ggX11_straw_X11_isCart : GoodIn wsX11_straw wsX11_isCart := goodIn_r _ [7, 8, 9, 10, 6, 11, 70, 71, 72, 73, 74, 75, 76, 77, 78, 79, 80, 81, 82, 83, 84, 85, 86, 87, 88, 89, 90, 91, 92, 93, 94, 95, 96, 97, 98, 99, 100, 101, 102, 103, 104, 105, 106, 107, 108] (by decide +kernel) (by decide +kernel)
set_option maxRecDepth 20000 in
theorem gX11_straw_X11_isCart : GoodIn wsX11_straw (wsV RX11 225 RX11 yX11_isCart wsX11_isCart) := goodIn_app (goodIn_of _ (by decide +kernel)) ggX11_straw_X11_isCart
set_option maxRecDepth 20000 in
theorem ggX11_straw_X11_isPlace : GoodIn wsX11_straw wsX11_isPlace := goodIn_r _ [15, 16, 9, 10, 6, 11, 70, 71, 72, 73, 74, 75, 76, 77, 78, 79, 80, 81, 82, 83, 84, 85, 86, 87, 88, 89, 90, 91, 92, 93, 94, 95, 96, 97, 98, 99, 100, 101, 102, 103, 104, 105, 106, 107, 108] (by decide +kernel) (by decide +kernel)
set_option maxRecDepth 20000 in
theorem gX11_straw_X11_isPlace : GoodIn wsX11_straw (wsV RX11 215 RX11 yX11_isPlace wsX11_isPlace) := goodIn_app (goodIn_of _ (by decide +kernel)) ggX11_straw_X11_isPlace
set_option maxRecDepth 20000 in
theorem ggX11_straw_X11_in : GoodIn wsX11_straw wsX11_in := goodIn_r _ [11] (by decide +kernel) (by decide +kernel)
set_option maxRecDepth 20000 in
theorem gX11_straw_X11_in : GoodIn wsX11_straw (va_wsS RX11 94 yX11_in wsX11_in) := goodIn_app (goodIn_of _ (by decide +kernel)) ggX11_straw_X11_in
set_option maxRecDepth 20000 in
theorem ggX11_straw_X11_layFrom : GoodIn wsX11_straw wsX11_layFrom := goodIn_r _ [20, 21, 22, 23, 6, 24, 25, 26, 27, 28, 29, 30, 31, 32, 33, 34, 35, 36, 37, 38, 39, 40, 41, 42, 43, 44, 45, 46, 47, 48, 49, 50, 51, 52, 53, 54, 55, 56, 57, 9, 10, 11, 58, 59, 60, 61, 62, 63, 64, 65, 70, 71, 72, 73, 74, 75, 76, 77, 78, 79, 80, 81, 82, 83, 84, 85, 86, 87, 88, 89, 90, 91, 92, 93, 94, 95, 96, 97, 98, 99, 100, 101, 102, 103, 104, 105, 106, 107, 108] (by decide +kernel) (by decide +kernel)
set_option maxRecDepth 20000 in
theorem gX11_straw_X11_layFrom : GoodIn wsX11_straw (wsV RX11 272 RX11 yX11_layFrom wsX11_layFrom) := goodIn_app (goodIn_of _ (by decide +kernel)) ggX11_straw_X11_layFrom
set_option maxRecDepth 20000 in
theorem ggX11_straw_X11_mostIn : GoodIn wsX11_straw wsX11_mostIn := goodIn_r _ [69, 39, 40, 6, 41] (by decide +kernel) (by decide +kernel)
set_option maxRecDepth 20000 in
theorem gX11_straw_X11_mostIn : GoodIn wsX11_straw (wsV RX11 275 RX11 yX11_mostIn wsX11_mostIn) := goodIn_app (goodIn_of _ (by decide +kernel)) ggX11_straw_X11_mostIn
theorem dX11_straw_0 : decode cX11_straw 0 = .ok (.aload_n 0, 1) := by decide +kernel
theorem dX11_straw_1 : decode cX11_straw 1 = .ok (.iload_n 1, 1) := by decide +kernel
theorem dX11_straw_2 : decode cX11_straw 2 = .ok (.invokevirtual 225, 3) := by decide +kernel
theorem dX11_straw_5 : decode cX11_straw 5 = .ok (.ifCond .eq 11, 3) := by decide +kernel
theorem dX11_straw_8 : decode cX11_straw 8 = .ok (.aload_n 0, 1) := by decide +kernel
theorem dX11_straw_9 : decode cX11_straw 9 = .ok (.iload_n 2, 1) := by decide +kernel
theorem dX11_straw_10 : decode cX11_straw 10 = .ok (.invokevirtual 215, 3) := by decide +kernel
theorem dX11_straw_13 : decode cX11_straw 13 = .ok (.ifCond .ne 6, 3) := by decide +kernel
theorem dX11_straw_16 : decode cX11_straw 16 = .ok (.bipush (-2), 2) := by decide +kernel
theorem dX11_straw_18 : decode cX11_straw 18 = .ok (.ireturn, 1) := by decide +kernel
theorem dX11_straw_19 : decode cX11_straw 19 = .ok (.iload_n 3, 1) := by decide +kernel
theorem dX11_straw_20 : decode cX11_straw 20 = .ok (.iconst 0, 1) := by decide +kernel
theorem dX11_straw_21 : decode cX11_straw 21 = .ok (.bipush 99, 2) := by decide +kernel
theorem dX11_straw_23 : decode cX11_straw 23 = .ok (.invokestatic 94, 3) := by decide +kernel
theorem dX11_straw_26 : decode cX11_straw 26 = .ok (.ifCond .eq 14, 3) := by decide +kernel
theorem dX11_straw_29 : decode cX11_straw 29 = .ok (.iload 4, 2) := by decide +kernel
theorem dX11_straw_31 : decode cX11_straw 31 = .ok (.iconst 0, 1) := by decide +kernel
theorem dX11_straw_32 : decode cX11_straw 32 = .ok (.bipush 48, 2) := by decide +kernel
theorem dX11_straw_34 : decode cX11_straw 34 = .ok (.invokestatic 94, 3) := by decide +kernel
theorem dX11_straw_37 : decode cX11_straw 37 = .ok (.ifCond .ne 6, 3) := by decide +kernel
theorem dX11_straw_40 : decode cX11_straw 40 = .ok (.bipush (-3), 2) := by decide +kernel
theorem dX11_straw_42 : decode cX11_straw 42 = .ok (.ireturn, 1) := by decide +kernel
theorem dX11_straw_43 : decode cX11_straw 43 = .ok (.iconst 0, 1) := by decide +kernel
theorem dX11_straw_44 : decode cX11_straw 44 = .ok (.istore 5, 2) := by decide +kernel
theorem dX11_straw_46 : decode cX11_straw 46 = .ok (.iload 5, 2) := by decide +kernel
theorem dX11_straw_48 : decode cX11_straw 48 = .ok (.iconst 4, 1) := by decide +kernel
theorem dX11_straw_49 : decode cX11_straw 49 = .ok (.if_icmp .ge 56, 3) := by decide +kernel
theorem dX11_straw_52 : decode cX11_straw 52 = .ok (.aload_n 0, 1) := by decide +kernel
theorem dX11_straw_53 : decode cX11_straw 53 = .ok (.aload_n 0, 1) := by decide +kernel
theorem dX11_straw_54 : decode cX11_straw 54 = .ok (.getfield 44, 3) := by decide +kernel
theorem dX11_straw_57 : decode cX11_straw 57 = .ok (.aload_n 0, 1) := by decide +kernel
theorem dX11_straw_58 : decode cX11_straw 58 = .ok (.getfield 48, 3) := by decide +kernel
theorem dX11_straw_61 : decode cX11_straw 61 = .ok (.iload_n 1, 1) := by decide +kernel
theorem dX11_straw_62 : decode cX11_straw 62 = .ok (.iload 5, 2) := by decide +kernel
theorem dX11_straw_64 : decode cX11_straw 64 = .ok (.invokevirtual 272, 3) := by decide +kernel
theorem dX11_straw_67 : decode cX11_straw 67 = .ok (.aload_n 0, 1) := by decide +kernel
theorem dX11_straw_68 : decode cX11_straw 68 = .ok (.aload_n 0, 1) := by decide +kernel
theorem dX11_straw_69 : decode cX11_straw 69 = .ok (.getfield 44, 3) := by decide +kernel
theorem dX11_straw_72 : decode cX11_straw 72 = .ok (.aload_n 0, 1) := by decide +kernel
theorem dX11_straw_73 : decode cX11_straw 73 = .ok (.getfield 48, 3) := by decide +kernel
theorem dX11_straw_76 : decode cX11_straw 76 = .ok (.iload_n 2, 1) := by decide +kernel
theorem dX11_straw_77 : decode cX11_straw 77 = .ok (.iload 4, 2) := by decide +kernel
theorem dX11_straw_79 : decode cX11_straw 79 = .ok (.invokevirtual 275, 3) := by decide +kernel
theorem dX11_straw_82 : decode cX11_straw 82 = .ok (.istore 6, 2) := by decide +kernel
theorem dX11_straw_84 : decode cX11_straw 84 = .ok (.iload 6, 2) := by decide +kernel
theorem dX11_straw_86 : decode cX11_straw 86 = .ok (.iconst (-1), 1) := by decide +kernel
theorem dX11_straw_87 : decode cX11_straw 87 = .ok (.if_icmp .eq 12, 3) := by decide +kernel
theorem dX11_straw_90 : decode cX11_straw 90 = .ok (.iload 6, 2) := by decide +kernel
theorem dX11_straw_92 : decode cX11_straw 92 = .ok (.iload_n 3, 1) := by decide +kernel
theorem dX11_straw_93 : decode cX11_straw 93 = .ok (.if_icmp .lt 6, 3) := by decide +kernel
theorem dX11_straw_96 : decode cX11_straw 96 = .ok (.iload 5, 2) := by decide +kernel
theorem dX11_straw_98 : decode cX11_straw 98 = .ok (.ireturn, 1) := by decide +kernel
theorem dX11_straw_99 : decode cX11_straw 99 = .ok (.iinc 5 1, 3) := by decide +kernel
theorem dX11_straw_102 : decode cX11_straw 102 = .ok (.goto (-56), 3) := by decide +kernel
theorem dX11_straw_105 : decode cX11_straw 105 = .ok (.iconst (-1), 1) := by decide +kernel
theorem dX11_straw_106 : decode cX11_straw 106 = .ok (.ireturn, 1) := by decide +kernel
set_option maxRecDepth 20000 in
theorem ggX11_meet_X11_isCart : GoodIn wsX11_meet wsX11_isCart := goodIn_r _ [11, 12, 13, 14, 10, 15, 82, 83, 84, 85, 86, 87, 88, 89, 90, 91, 92, 93, 94, 95, 96, 97, 98, 99, 100, 101, 102, 103, 104, 105, 106, 107, 108, 109, 110, 111, 112, 113, 114, 115, 116, 117, 118, 119, 120] (by decide +kernel) (by decide +kernel)
set_option maxRecDepth 20000 in
theorem gX11_meet_X11_isCart : GoodIn wsX11_meet (wsV RX11 225 RX11 yX11_isCart wsX11_isCart) := goodIn_app (goodIn_of _ (by decide +kernel)) ggX11_meet_X11_isCart
set_option maxRecDepth 20000 in
theorem ggX11_meet_X11_isPlace : GoodIn wsX11_meet wsX11_isPlace := goodIn_r _ [19, 20, 13, 14, 10, 15, 82, 83, 84, 85, 86, 87, 88, 89, 90, 91, 92, 93, 94, 95, 96, 97, 98, 99, 100, 101, 102, 103, 104, 105, 106, 107, 108, 109, 110, 111, 112, 113, 114, 115, 116, 117, 118, 119, 120] (by decide +kernel) (by decide +kernel)
set_option maxRecDepth 20000 in
theorem gX11_meet_X11_isPlace : GoodIn wsX11_meet (wsV RX11 215 RX11 yX11_isPlace wsX11_isPlace) := goodIn_app (goodIn_of _ (by decide +kernel)) ggX11_meet_X11_isPlace
set_option maxRecDepth 20000 in
theorem ggX11_meet_X11_in : GoodIn wsX11_meet wsX11_in := goodIn_r _ [15] (by decide +kernel) (by decide +kernel)
set_option maxRecDepth 20000 in
theorem gX11_meet_X11_in : GoodIn wsX11_meet (va_wsS RX11 94 yX11_in wsX11_in) := goodIn_app (goodIn_of _ (by decide +kernel)) ggX11_meet_X11_in
set_option maxRecDepth 20000 in
theorem ggX11_meet_X11_strawOf : GoodIn wsX11_meet wsX11_strawOf := goodIn_r _ [24, 25, 82, 83, 84, 85, 86, 87, 88, 89, 90, 91, 92, 93, 94, 95, 96, 97, 98, 99, 100, 101, 102, 103, 104, 105, 106, 107, 108, 109, 110, 111, 112, 113, 114, 115, 116, 117, 118, 119, 120] (by decide +kernel) (by decide +kernel)
set_option maxRecDepth 20000 in
theorem gX11_meet_X11_strawOf : GoodIn wsX11_meet (wsV RX11 231 RX11 yX11_strawOf wsX11_strawOf) := goodIn_app (goodIn_of _ (by decide +kernel)) ggX11_meet_X11_strawOf
set_option maxRecDepth 20000 in
theorem ggX11_meet_X11_layFrom : GoodIn wsX11_meet wsX11_layFrom := goodIn_r _ [29, 30, 31, 32, 10, 33, 34, 35, 36, 37, 38, 39, 40, 25, 41, 42, 43, 44, 45, 46, 47, 48, 49, 50, 51, 52, 53, 54, 55, 56, 57, 58, 59, 60, 61, 62, 63, 64, 65, 13, 14, 15, 66, 67, 68, 69, 70, 71, 72, 73, 82, 83, 84, 85, 86, 87, 88, 89, 90, 91, 92, 93, 94, 95, 96, 97, 98, 99, 100, 101, 102, 103, 104, 105, 106, 107, 108, 109, 110, 111, 112, 113, 114, 115, 116, 117, 118, 119, 120] (by decide +kernel) (by decide +kernel)
set_option maxRecDepth 20000 in
theorem gX11_meet_X11_layFrom : GoodIn wsX11_meet (wsV RX11 272 RX11 yX11_layFrom wsX11_layFrom) := goodIn_app (goodIn_of _ (by decide +kernel)) ggX11_meet_X11_layFrom
set_option maxRecDepth 20000 in
theorem ggX11_meet_X11_clear : GoodIn wsX11_meet wsX11_clear := goodIn_r _ [33] (by decide +kernel) (by decide +kernel)
set_option maxRecDepth 20000 in
theorem gX11_meet_X11_clear : GoodIn wsX11_meet (va_wsS RX11 265 yX11_clear wsX11_clear) := goodIn_app (goodIn_of _ (by decide +kernel)) ggX11_meet_X11_clear
set_option maxRecDepth 20000 in
theorem ggX11_meet_X11_isIn : GoodIn wsX11_meet wsX11_isIn := goodIn_r _ [49] (by decide +kernel) (by decide +kernel)
set_option maxRecDepth 20000 in
theorem gX11_meet_X11_isIn : GoodIn wsX11_meet (va_wsS RX11 257 yX11_isIn wsX11_isIn) := goodIn_app (goodIn_of _ (by decide +kernel)) ggX11_meet_X11_isIn
set_option maxRecDepth 20000 in
theorem ggX11_meet_X11_lay : GoodIn wsX11_meet wsX11_lay := goodIn_r _ [36] (by decide +kernel) (by decide +kernel)
set_option maxRecDepth 20000 in
theorem gX11_meet_X11_lay : GoodIn wsX11_meet (va_wsS RX11 261 yX11_lay wsX11_lay) := goodIn_app (goodIn_of _ (by decide +kernel)) ggX11_meet_X11_lay
set_option maxRecDepth 20000 in
theorem ggX11_meet_X11_kindOf : GoodIn wsX11_meet wsX11_kindOf := goodIn_r _ [40, 25, 82, 83, 84, 85, 86, 87, 88, 89, 90, 91, 92, 93, 94, 95, 96, 97, 98, 99, 100, 101, 102, 103, 104, 105, 106, 107, 108, 109, 110, 111, 112, 113, 114, 115, 116, 117, 118, 119, 120] (by decide +kernel) (by decide +kernel)
set_option maxRecDepth 20000 in
theorem gX11_meet_X11_kindOf : GoodIn wsX11_meet (wsV RX11 228 RX11 yX11_kindOf wsX11_kindOf) := goodIn_app (goodIn_of _ (by decide +kernel)) ggX11_meet_X11_kindOf
set_option maxRecDepth 20000 in
theorem ggX11_meet_X11_spread : GoodIn wsX11_meet wsX11_spread := goodIn_r _ [44, 45, 46, 47, 48, 10, 49, 50, 51, 52, 53, 54, 55, 56, 57, 58, 59, 60, 61, 62, 63, 64, 65, 13, 14, 15, 34, 35, 36, 66, 67, 68, 69, 70, 71, 72, 73, 82, 83, 84, 85, 86, 87, 88, 89, 90, 91, 92, 93, 94, 95, 96, 97, 98, 99, 100, 101, 102, 103, 104, 105, 106, 107, 108, 109, 110, 111, 112, 113, 114, 115, 116, 117, 118, 119, 120] (by decide +kernel) (by decide +kernel)
set_option maxRecDepth 20000 in
theorem gX11_meet_X11_spread : GoodIn wsX11_meet (wsV RX11 269 RX11 yX11_spread wsX11_spread) := goodIn_app (goodIn_of _ (by decide +kernel)) ggX11_meet_X11_spread
set_option maxRecDepth 20000 in
theorem ggX11_meet_X11_mostIn : GoodIn wsX11_meet wsX11_mostIn := goodIn_r _ [77, 47, 48, 10, 49] (by decide +kernel) (by decide +kernel)
set_option maxRecDepth 20000 in
theorem gX11_meet_X11_mostIn : GoodIn wsX11_meet (wsV RX11 275 RX11 yX11_mostIn wsX11_mostIn) := goodIn_app (goodIn_of _ (by decide +kernel)) ggX11_meet_X11_mostIn
set_option maxRecDepth 20000 in
theorem ggX11_meet_X11_soonestIn : GoodIn wsX11_meet wsX11_soonestIn := goodIn_r _ [81, 47, 48, 10, 49] (by decide +kernel) (by decide +kernel)
set_option maxRecDepth 20000 in
theorem gX11_meet_X11_soonestIn : GoodIn wsX11_meet (wsV RX11 279 RX11 yX11_soonestIn wsX11_soonestIn) := goodIn_app (goodIn_of _ (by decide +kernel)) ggX11_meet_X11_soonestIn
theorem dX11_meet_0 : decode cX11_meet 0 = .ok (.aload_n 0, 1) := by decide +kernel
theorem dX11_meet_1 : decode cX11_meet 1 = .ok (.iload_n 1, 1) := by decide +kernel
theorem dX11_meet_2 : decode cX11_meet 2 = .ok (.invokevirtual 225, 3) := by decide +kernel
theorem dX11_meet_5 : decode cX11_meet 5 = .ok (.ifCond .eq 24, 3) := by decide +kernel
theorem dX11_meet_8 : decode cX11_meet 8 = .ok (.aload_n 0, 1) := by decide +kernel
theorem dX11_meet_9 : decode cX11_meet 9 = .ok (.iload_n 2, 1) := by decide +kernel
theorem dX11_meet_10 : decode cX11_meet 10 = .ok (.invokevirtual 225, 3) := by decide +kernel
theorem dX11_meet_13 : decode cX11_meet 13 = .ok (.ifCond .eq 16, 3) := by decide +kernel
theorem dX11_meet_16 : decode cX11_meet 16 = .ok (.iload_n 1, 1) := by decide +kernel
theorem dX11_meet_17 : decode cX11_meet 17 = .ok (.iload_n 2, 1) := by decide +kernel
theorem dX11_meet_18 : decode cX11_meet 18 = .ok (.if_icmp .eq 11, 3) := by decide +kernel
theorem dX11_meet_21 : decode cX11_meet 21 = .ok (.aload_n 0, 1) := by decide +kernel
theorem dX11_meet_22 : decode cX11_meet 22 = .ok (.iload_n 3, 1) := by decide +kernel
theorem dX11_meet_23 : decode cX11_meet 23 = .ok (.invokevirtual 215, 3) := by decide +kernel
theorem dX11_meet_26 : decode cX11_meet 26 = .ok (.ifCond .ne 6, 3) := by decide +kernel
theorem dX11_meet_29 : decode cX11_meet 29 = .ok (.bipush (-2), 2) := by decide +kernel
theorem dX11_meet_31 : decode cX11_meet 31 = .ok (.ireturn, 1) := by decide +kernel
theorem dX11_meet_32 : decode cX11_meet 32 = .ok (.iload 4, 2) := by decide +kernel
theorem dX11_meet_34 : decode cX11_meet 34 = .ok (.iconst 0, 1) := by decide +kernel
theorem dX11_meet_35 : decode cX11_meet 35 = .ok (.iconst 1, 1) := by decide +kernel
theorem dX11_meet_36 : decode cX11_meet 36 = .ok (.invokestatic 94, 3) := by decide +kernel
theorem dX11_meet_39 : decode cX11_meet 39 = .ok (.ifCond .ne 6, 3) := by decide +kernel
theorem dX11_meet_42 : decode cX11_meet 42 = .ok (.bipush (-3), 2) := by decide +kernel
theorem dX11_meet_44 : decode cX11_meet 44 = .ok (.ireturn, 1) := by decide +kernel
theorem dX11_meet_45 : decode cX11_meet 45 = .ok (.aload_n 0, 1) := by decide +kernel
theorem dX11_meet_46 : decode cX11_meet 46 = .ok (.aload_n 0, 1) := by decide +kernel
theorem dX11_meet_47 : decode cX11_meet 47 = .ok (.getfield 44, 3) := by decide +kernel
theorem dX11_meet_50 : decode cX11_meet 50 = .ok (.aload_n 0, 1) := by decide +kernel
theorem dX11_meet_51 : decode cX11_meet 51 = .ok (.getfield 48, 3) := by decide +kernel
theorem dX11_meet_54 : decode cX11_meet 54 = .ok (.iload_n 1, 1) := by decide +kernel
theorem dX11_meet_55 : decode cX11_meet 55 = .ok (.aload_n 0, 1) := by decide +kernel
theorem dX11_meet_56 : decode cX11_meet 56 = .ok (.iload_n 1, 1) := by decide +kernel
theorem dX11_meet_57 : decode cX11_meet 57 = .ok (.invokevirtual 231, 3) := by decide +kernel
theorem dX11_meet_60 : decode cX11_meet 60 = .ok (.invokevirtual 272, 3) := by decide +kernel
theorem dX11_meet_63 : decode cX11_meet 63 = .ok (.aload_n 0, 1) := by decide +kernel
theorem dX11_meet_64 : decode cX11_meet 64 = .ok (.aload_n 0, 1) := by decide +kernel
theorem dX11_meet_65 : decode cX11_meet 65 = .ok (.getfield 51, 3) := by decide +kernel
theorem dX11_meet_68 : decode cX11_meet 68 = .ok (.aload_n 0, 1) := by decide +kernel
theorem dX11_meet_69 : decode cX11_meet 69 = .ok (.getfield 54, 3) := by decide +kernel
theorem dX11_meet_72 : decode cX11_meet 72 = .ok (.iload_n 2, 1) := by decide +kernel
theorem dX11_meet_73 : decode cX11_meet 73 = .ok (.aload_n 0, 1) := by decide +kernel
theorem dX11_meet_74 : decode cX11_meet 74 = .ok (.iload_n 2, 1) := by decide +kernel
theorem dX11_meet_75 : decode cX11_meet 75 = .ok (.invokevirtual 231, 3) := by decide +kernel
theorem dX11_meet_78 : decode cX11_meet 78 = .ok (.invokevirtual 272, 3) := by decide +kernel
theorem dX11_meet_81 : decode cX11_meet 81 = .ok (.aload_n 0, 1) := by decide +kernel
theorem dX11_meet_82 : decode cX11_meet 82 = .ok (.getfield 57, 3) := by decide +kernel
theorem dX11_meet_85 : decode cX11_meet 85 = .ok (.aload_n 0, 1) := by decide +kernel
theorem dX11_meet_86 : decode cX11_meet 86 = .ok (.getfield 60, 3) := by decide +kernel
theorem dX11_meet_89 : decode cX11_meet 89 = .ok (.invokestatic 265, 3) := by decide +kernel
theorem dX11_meet_92 : decode cX11_meet 92 = .ok (.iconst 0, 1) := by decide +kernel
theorem dX11_meet_93 : decode cX11_meet 93 = .ok (.istore 5, 2) := by decide +kernel
theorem dX11_meet_95 : decode cX11_meet 95 = .ok (.iload 5, 2) := by decide +kernel
theorem dX11_meet_97 : decode cX11_meet 97 = .ok (.sipush 343, 3) := by decide +kernel
theorem dX11_meet_100 : decode cX11_meet 100 = .ok (.if_icmp .ge 98, 3) := by decide +kernel
theorem dX11_meet_103 : decode cX11_meet 103 = .ok (.iconst 0, 1) := by decide +kernel
theorem dX11_meet_104 : decode cX11_meet 104 = .ok (.istore 6, 2) := by decide +kernel
theorem dX11_meet_106 : decode cX11_meet 106 = .ok (.iload 6, 2) := by decide +kernel
theorem dX11_meet_108 : decode cX11_meet 108 = .ok (.bipush 99, 2) := by decide +kernel
theorem dX11_meet_110 : decode cX11_meet 110 = .ok (.if_icmp .gt 82, 3) := by decide +kernel
theorem dX11_meet_113 : decode cX11_meet 113 = .ok (.iconst 0, 1) := by decide +kernel
theorem dX11_meet_114 : decode cX11_meet 114 = .ok (.istore 7, 2) := by decide +kernel
theorem dX11_meet_116 : decode cX11_meet 116 = .ok (.iload 6, 2) := by decide +kernel
theorem dX11_meet_118 : decode cX11_meet 118 = .ok (.iload 7, 2) := by decide +kernel
theorem dX11_meet_120 : decode cX11_meet 120 = .ok (.iadd, 1) := by decide +kernel
theorem dX11_meet_121 : decode cX11_meet 121 = .ok (.bipush 99, 2) := by decide +kernel
theorem dX11_meet_123 : decode cX11_meet 123 = .ok (.if_icmp .gt 63, 3) := by decide +kernel
theorem dX11_meet_126 : decode cX11_meet 126 = .ok (.aload_n 0, 1) := by decide +kernel
theorem dX11_meet_127 : decode cX11_meet 127 = .ok (.getfield 44, 3) := by decide +kernel
theorem dX11_meet_130 : decode cX11_meet 130 = .ok (.aload_n 0, 1) := by decide +kernel
theorem dX11_meet_131 : decode cX11_meet 131 = .ok (.getfield 48, 3) := by decide +kernel
theorem dX11_meet_134 : decode cX11_meet 134 = .ok (.iload 5, 2) := by decide +kernel
theorem dX11_meet_136 : decode cX11_meet 136 = .ok (.iload 6, 2) := by decide +kernel
theorem dX11_meet_138 : decode cX11_meet 138 = .ok (.invokestatic 257, 3) := by decide +kernel
theorem dX11_meet_141 : decode cX11_meet 141 = .ok (.ifCond .eq 45, 3) := by decide +kernel
theorem dX11_meet_144 : decode cX11_meet 144 = .ok (.aload_n 0, 1) := by decide +kernel
theorem dX11_meet_145 : decode cX11_meet 145 = .ok (.getfield 51, 3) := by decide +kernel
theorem dX11_meet_148 : decode cX11_meet 148 = .ok (.aload_n 0, 1) := by decide +kernel
theorem dX11_meet_149 : decode cX11_meet 149 = .ok (.getfield 54, 3) := by decide +kernel
theorem dX11_meet_152 : decode cX11_meet 152 = .ok (.iload 5, 2) := by decide +kernel
theorem dX11_meet_154 : decode cX11_meet 154 = .ok (.iload 7, 2) := by decide +kernel
theorem dX11_meet_156 : decode cX11_meet 156 = .ok (.invokestatic 257, 3) := by decide +kernel
theorem dX11_meet_159 : decode cX11_meet 159 = .ok (.ifCond .eq 21, 3) := by decide +kernel
theorem dX11_meet_162 : decode cX11_meet 162 = .ok (.aload_n 0, 1) := by decide +kernel
theorem dX11_meet_163 : decode cX11_meet 163 = .ok (.getfield 57, 3) := by decide +kernel
theorem dX11_meet_166 : decode cX11_meet 166 = .ok (.aload_n 0, 1) := by decide +kernel
theorem dX11_meet_167 : decode cX11_meet 167 = .ok (.getfield 60, 3) := by decide +kernel
theorem dX11_meet_170 : decode cX11_meet 170 = .ok (.iload 5, 2) := by decide +kernel
theorem dX11_meet_172 : decode cX11_meet 172 = .ok (.iload 6, 2) := by decide +kernel
theorem dX11_meet_174 : decode cX11_meet 174 = .ok (.iload 7, 2) := by decide +kernel
theorem dX11_meet_176 : decode cX11_meet 176 = .ok (.iadd, 1) := by decide +kernel
theorem dX11_meet_177 : decode cX11_meet 177 = .ok (.invokestatic 261, 3) := by decide +kernel
theorem dX11_meet_180 : decode cX11_meet 180 = .ok (.iinc 7 1, 3) := by decide +kernel
theorem dX11_meet_183 : decode cX11_meet 183 = .ok (.goto (-67), 3) := by decide +kernel
theorem dX11_meet_186 : decode cX11_meet 186 = .ok (.iinc 6 1, 3) := by decide +kernel
theorem dX11_meet_189 : decode cX11_meet 189 = .ok (.goto (-83), 3) := by decide +kernel
theorem dX11_meet_192 : decode cX11_meet 192 = .ok (.iinc 5 1, 3) := by decide +kernel
theorem dX11_meet_195 : decode cX11_meet 195 = .ok (.goto (-100), 3) := by decide +kernel
theorem dX11_meet_198 : decode cX11_meet 198 = .ok (.aload_n 0, 1) := by decide +kernel
theorem dX11_meet_199 : decode cX11_meet 199 = .ok (.aload_n 0, 1) := by decide +kernel
theorem dX11_meet_200 : decode cX11_meet 200 = .ok (.getfield 57, 3) := by decide +kernel
theorem dX11_meet_203 : decode cX11_meet 203 = .ok (.aload_n 0, 1) := by decide +kernel
theorem dX11_meet_204 : decode cX11_meet 204 = .ok (.getfield 60, 3) := by decide +kernel
theorem dX11_meet_207 : decode cX11_meet 207 = .ok (.aload_n 0, 1) := by decide +kernel
theorem dX11_meet_208 : decode cX11_meet 208 = .ok (.iload_n 1, 1) := by decide +kernel
theorem dX11_meet_209 : decode cX11_meet 209 = .ok (.invokevirtual 228, 3) := by decide +kernel
theorem dX11_meet_212 : decode cX11_meet 212 = .ok (.aload_n 0, 1) := by decide +kernel
theorem dX11_meet_213 : decode cX11_meet 213 = .ok (.iload_n 1, 1) := by decide +kernel
theorem dX11_meet_214 : decode cX11_meet 214 = .ok (.invokevirtual 231, 3) := by decide +kernel
theorem dX11_meet_217 : decode cX11_meet 217 = .ok (.invokevirtual 269, 3) := by decide +kernel
theorem dX11_meet_220 : decode cX11_meet 220 = .ok (.aload_n 0, 1) := by decide +kernel
theorem dX11_meet_221 : decode cX11_meet 221 = .ok (.aload_n 0, 1) := by decide +kernel
theorem dX11_meet_222 : decode cX11_meet 222 = .ok (.getfield 57, 3) := by decide +kernel
theorem dX11_meet_225 : decode cX11_meet 225 = .ok (.aload_n 0, 1) := by decide +kernel
theorem dX11_meet_226 : decode cX11_meet 226 = .ok (.getfield 60, 3) := by decide +kernel
theorem dX11_meet_229 : decode cX11_meet 229 = .ok (.iload_n 3, 1) := by decide +kernel
theorem dX11_meet_230 : decode cX11_meet 230 = .ok (.bipush 48, 2) := by decide +kernel
theorem dX11_meet_232 : decode cX11_meet 232 = .ok (.invokevirtual 275, 3) := by decide +kernel
theorem dX11_meet_235 : decode cX11_meet 235 = .ok (.istore 5, 2) := by decide +kernel
theorem dX11_meet_237 : decode cX11_meet 237 = .ok (.iload 5, 2) := by decide +kernel
theorem dX11_meet_239 : decode cX11_meet 239 = .ok (.iconst (-1), 1) := by decide +kernel
theorem dX11_meet_240 : decode cX11_meet 240 = .ok (.if_icmp .eq 8, 3) := by decide +kernel
theorem dX11_meet_243 : decode cX11_meet 243 = .ok (.iload 4, 2) := by decide +kernel
theorem dX11_meet_245 : decode cX11_meet 245 = .ok (.ifCond .ne 8, 3) := by decide +kernel
theorem dX11_meet_248 : decode cX11_meet 248 = .ok (.iload 5, 2) := by decide +kernel
theorem dX11_meet_250 : decode cX11_meet 250 = .ok (.goto 18, 3) := by decide +kernel
theorem dX11_meet_253 : decode cX11_meet 253 = .ok (.aload_n 0, 1) := by decide +kernel
theorem dX11_meet_254 : decode cX11_meet 254 = .ok (.aload_n 0, 1) := by decide +kernel
theorem dX11_meet_255 : decode cX11_meet 255 = .ok (.getfield 57, 3) := by decide +kernel
theorem dX11_meet_258 : decode cX11_meet 258 = .ok (.aload_n 0, 1) := by decide +kernel
theorem dX11_meet_259 : decode cX11_meet 259 = .ok (.getfield 60, 3) := by decide +kernel
theorem dX11_meet_262 : decode cX11_meet 262 = .ok (.iload_n 3, 1) := by decide +kernel
theorem dX11_meet_263 : decode cX11_meet 263 = .ok (.iload 5, 2) := by decide +kernel
theorem dX11_meet_265 : decode cX11_meet 265 = .ok (.invokevirtual 279, 3) := by decide +kernel
theorem dX11_meet_268 : decode cX11_meet 268 = .ok (.ireturn, 1) := by decide +kernel
set_option maxRecDepth 20000 in
theorem ggX11_taker_X11_in : GoodIn wsX11_taker wsX11_in := goodIn_r _ [6] (by decide +kernel) (by decide +kernel)
set_option maxRecDepth 20000 in
theorem gX11_taker_X11_in : GoodIn wsX11_taker (va_wsS RX11 94 yX11_in wsX11_in) := goodIn_app (goodIn_of _ (by decide +kernel)) ggX11_taker_X11_in
theorem dX11_taker_0 : decode cX11_taker 0 = .ok (.iload_n 1, 1) := by decide +kernel
theorem dX11_taker_1 : decode cX11_taker 1 = .ok (.iconst 1, 1) := by decide +kernel
theorem dX11_taker_2 : decode cX11_taker 2 = .ok (.bipush 30, 2) := by decide +kernel
theorem dX11_taker_4 : decode cX11_taker 4 = .ok (.invokestatic 94, 3) := by decide +kernel
theorem dX11_taker_7 : decode cX11_taker 7 = .ok (.ifCond .ne 6, 3) := by decide +kernel
theorem dX11_taker_10 : decode cX11_taker 10 = .ok (.bipush (-3), 2) := by decide +kernel
theorem dX11_taker_12 : decode cX11_taker 12 = .ok (.ireturn, 1) := by decide +kernel
theorem dX11_taker_13 : decode cX11_taker 13 = .ok (.aload_n 0, 1) := by decide +kernel
theorem dX11_taker_14 : decode cX11_taker 14 = .ok (.getfield 85, 3) := by decide +kernel
theorem dX11_taker_17 : decode cX11_taker 17 = .ok (.iconst 5, 1) := by decide +kernel
theorem dX11_taker_18 : decode cX11_taker 18 = .ok (.if_icmp .ne 6, 3) := by decide +kernel
theorem dX11_taker_21 : decode cX11_taker 21 = .ok (.bipush (-5), 2) := by decide +kernel
theorem dX11_taker_23 : decode cX11_taker 23 = .ok (.ireturn, 1) := by decide +kernel
theorem dX11_taker_24 : decode cX11_taker 24 = .ok (.aload_n 0, 1) := by decide +kernel
theorem dX11_taker_25 : decode cX11_taker 25 = .ok (.getfield 38, 3) := by decide +kernel
theorem dX11_taker_28 : decode cX11_taker 28 = .ok (.aload_n 0, 1) := by decide +kernel
theorem dX11_taker_29 : decode cX11_taker 29 = .ok (.getfield 85, 3) := by decide +kernel
theorem dX11_taker_32 : decode cX11_taker 32 = .ok (.iload_n 1, 1) := by decide +kernel
theorem dX11_taker_33 : decode cX11_taker 33 = .ok (.iastore, 1) := by decide +kernel
theorem dX11_taker_34 : decode cX11_taker 34 = .ok (.aload_n 0, 1) := by decide +kernel
theorem dX11_taker_35 : decode cX11_taker 35 = .ok (.dup, 1) := by decide +kernel
theorem dX11_taker_36 : decode cX11_taker 36 = .ok (.getfield 85, 3) := by decide +kernel
theorem dX11_taker_39 : decode cX11_taker 39 = .ok (.iconst 1, 1) := by decide +kernel
theorem dX11_taker_40 : decode cX11_taker 40 = .ok (.iadd, 1) := by decide +kernel
theorem dX11_taker_41 : decode cX11_taker 41 = .ok (.putfield 85, 3) := by decide +kernel
theorem dX11_taker_44 : decode cX11_taker 44 = .ok (.aload_n 0, 1) := by decide +kernel
theorem dX11_taker_45 : decode cX11_taker 45 = .ok (.getfield 85, 3) := by decide +kernel
theorem dX11_taker_48 : decode cX11_taker 48 = .ok (.ireturn, 1) := by decide +kernel
theorem dX11_dismiss_0 : decode cX11_dismiss 0 = .ok (.aload_n 0, 1) := by decide +kernel
theorem dX11_dismiss_1 : decode cX11_dismiss 1 = .ok (.getfield 85, 3) := by decide +kernel
theorem dX11_dismiss_4 : decode cX11_dismiss 4 = .ok (.istore_n 1, 1) := by decide +kernel
theorem dX11_dismiss_5 : decode cX11_dismiss 5 = .ok (.aload_n 0, 1) := by decide +kernel
theorem dX11_dismiss_6 : decode cX11_dismiss 6 = .ok (.iconst 0, 1) := by decide +kernel
theorem dX11_dismiss_7 : decode cX11_dismiss 7 = .ok (.putfield 85, 3) := by decide +kernel
theorem dX11_dismiss_10 : decode cX11_dismiss 10 = .ok (.iload_n 1, 1) := by decide +kernel
theorem dX11_dismiss_11 : decode cX11_dismiss 11 = .ok (.ireturn, 1) := by decide +kernel
set_option maxRecDepth 20000 in
theorem ggX11_leftBy_X11_has : GoodIn wsX11_leftBy wsX11_has := goodIn_r _ [6] (by decide +kernel) (by decide +kernel)
set_option maxRecDepth 20000 in
theorem gX11_leftBy_X11_has : GoodIn wsX11_leftBy (va_wsS RX11 282 yX11_has wsX11_has) := goodIn_app (goodIn_of _ (by decide +kernel)) ggX11_leftBy_X11_has
set_option maxRecDepth 20000 in
theorem ggX11_leftBy_X11_opened : GoodIn wsX11_leftBy wsX11_opened := goodIn_r _ [9, 10, 11, 5, 12] (by decide +kernel) (by decide +kernel)
set_option maxRecDepth 20000 in
theorem gX11_leftBy_X11_opened : GoodIn wsX11_leftBy (va_wsS RX11 254 yX11_opened wsX11_opened) := goodIn_app (goodIn_of _ (by decide +kernel)) ggX11_leftBy_X11_opened
theorem dX11_leftBy_0 : decode cX11_leftBy 0 = .ok (.iload_n 1, 1) := by decide +kernel
theorem dX11_leftBy_1 : decode cX11_leftBy 1 = .ok (.istore_n 3, 1) := by decide +kernel
theorem dX11_leftBy_2 : decode cX11_leftBy 2 = .ok (.iconst 0, 1) := by decide +kernel
theorem dX11_leftBy_3 : decode cX11_leftBy 3 = .ok (.istore 4, 2) := by decide +kernel
theorem dX11_leftBy_5 : decode cX11_leftBy 5 = .ok (.iload 4, 2) := by decide +kernel
theorem dX11_leftBy_7 : decode cX11_leftBy 7 = .ok (.aload_n 0, 1) := by decide +kernel
theorem dX11_leftBy_8 : decode cX11_leftBy 8 = .ok (.getfield 85, 3) := by decide +kernel
theorem dX11_leftBy_11 : decode cX11_leftBy 11 = .ok (.if_icmp .ge 35, 3) := by decide +kernel
theorem dX11_leftBy_14 : decode cX11_leftBy 14 = .ok (.iload_n 3, 1) := by decide +kernel
theorem dX11_leftBy_15 : decode cX11_leftBy 15 = .ok (.ifCond .lt 31, 3) := by decide +kernel
theorem dX11_leftBy_18 : decode cX11_leftBy 18 = .ok (.iload_n 2, 1) := by decide +kernel
theorem dX11_leftBy_19 : decode cX11_leftBy 19 = .ok (.iload 4, 2) := by decide +kernel
theorem dX11_leftBy_21 : decode cX11_leftBy 21 = .ok (.invokestatic 282, 3) := by decide +kernel
theorem dX11_leftBy_24 : decode cX11_leftBy 24 = .ok (.ifCond .eq 16, 3) := by decide +kernel
theorem dX11_leftBy_27 : decode cX11_leftBy 27 = .ok (.iload_n 3, 1) := by decide +kernel
theorem dX11_leftBy_28 : decode cX11_leftBy 28 = .ok (.invokestatic 254, 3) := by decide +kernel
theorem dX11_leftBy_31 : decode cX11_leftBy 31 = .ok (.aload_n 0, 1) := by decide +kernel
theorem dX11_leftBy_32 : decode cX11_leftBy 32 = .ok (.getfield 38, 3) := by decide +kernel
theorem dX11_leftBy_35 : decode cX11_leftBy 35 = .ok (.iload 4, 2) := by decide +kernel
theorem dX11_leftBy_37 : decode cX11_leftBy 37 = .ok (.iaload, 1) := by decide +kernel
theorem dX11_leftBy_38 : decode cX11_leftBy 38 = .ok (.isub, 1) := by decide +kernel
theorem dX11_leftBy_39 : decode cX11_leftBy 39 = .ok (.istore_n 3, 1) := by decide +kernel
theorem dX11_leftBy_40 : decode cX11_leftBy 40 = .ok (.iinc 4 1, 3) := by decide +kernel
theorem dX11_leftBy_43 : decode cX11_leftBy 43 = .ok (.goto (-38), 3) := by decide +kernel
theorem dX11_leftBy_46 : decode cX11_leftBy 46 = .ok (.iload_n 3, 1) := by decide +kernel
theorem dX11_leftBy_47 : decode cX11_leftBy 47 = .ok (.ifCond .ge 7, 3) := by decide +kernel
theorem dX11_leftBy_50 : decode cX11_leftBy 50 = .ok (.iconst (-1), 1) := by decide +kernel
theorem dX11_leftBy_51 : decode cX11_leftBy 51 = .ok (.goto 4, 3) := by decide +kernel
theorem dX11_leftBy_54 : decode cX11_leftBy 54 = .ok (.iload_n 3, 1) := by decide +kernel
theorem dX11_leftBy_55 : decode cX11_leftBy 55 = .ok (.ireturn, 1) := by decide +kernel
set_option maxRecDepth 20000 in
theorem ggX11_left_X11_in : GoodIn wsX11_left wsX11_in := goodIn_r _ [5] (by decide +kernel) (by decide +kernel)
set_option maxRecDepth 20000 in
theorem gX11_left_X11_in : GoodIn wsX11_left (va_wsS RX11 94 yX11_in wsX11_in) := goodIn_app (goodIn_of _ (by decide +kernel)) ggX11_left_X11_in
set_option maxRecDepth 20000 in
theorem ggX11_left_X11_leftBy : GoodIn wsX11_left wsX11_leftBy := goodIn_r _ [9, 1, 10, 11, 12, 4, 13, 14, 15, 16, 17, 18, 19, 20, 21, 22, 23, 24, 25, 26, 27, 28, 29, 30, 31, 32, 33, 34, 35, 36, 37, 38, 39, 40, 41, 42, 43, 44, 45, 46, 47, 48, 49, 50, 51, 52, 53, 54, 55, 56, 57, 58] (by decide +kernel) (by decide +kernel)
set_option maxRecDepth 20000 in
theorem gX11_left_X11_leftBy : GoodIn wsX11_left (wsV RX11 286 RX11 yX11_leftBy wsX11_leftBy) := goodIn_app (goodIn_of _ (by decide +kernel)) ggX11_left_X11_leftBy
theorem dX11_left_0 : decode cX11_left 0 = .ok (.iload_n 1, 1) := by decide +kernel
theorem dX11_left_1 : decode cX11_left 1 = .ok (.iconst 0, 1) := by decide +kernel
theorem dX11_left_2 : decode cX11_left 2 = .ok (.sipush 999, 3) := by decide +kernel
theorem dX11_left_5 : decode cX11_left 5 = .ok (.invokestatic 94, 3) := by decide +kernel
theorem dX11_left_8 : decode cX11_left 8 = .ok (.ifCond .eq 23, 3) := by decide +kernel
theorem dX11_left_11 : decode cX11_left 11 = .ok (.iload_n 2, 1) := by decide +kernel
theorem dX11_left_12 : decode cX11_left 12 = .ok (.iconst 0, 1) := by decide +kernel
theorem dX11_left_13 : decode cX11_left 13 = .ok (.sipush 999, 3) := by decide +kernel
theorem dX11_left_16 : decode cX11_left 16 = .ok (.invokestatic 94, 3) := by decide +kernel
theorem dX11_left_19 : decode cX11_left 19 = .ok (.ifCond .eq 12, 3) := by decide +kernel
theorem dX11_left_22 : decode cX11_left 22 = .ok (.iload_n 3, 1) := by decide +kernel
theorem dX11_left_23 : decode cX11_left 23 = .ok (.iconst 0, 1) := by decide +kernel
theorem dX11_left_24 : decode cX11_left 24 = .ok (.iconst 1, 1) := by decide +kernel
theorem dX11_left_25 : decode cX11_left 25 = .ok (.invokestatic 94, 3) := by decide +kernel
theorem dX11_left_28 : decode cX11_left 28 = .ok (.ifCond .ne 6, 3) := by decide +kernel
theorem dX11_left_31 : decode cX11_left 31 = .ok (.bipush (-3), 2) := by decide +kernel
theorem dX11_left_33 : decode cX11_left 33 = .ok (.ireturn, 1) := by decide +kernel
theorem dX11_left_34 : decode cX11_left 34 = .ok (.iconst 0, 1) := by decide +kernel
theorem dX11_left_35 : decode cX11_left 35 = .ok (.istore 4, 2) := by decide +kernel
theorem dX11_left_37 : decode cX11_left 37 = .ok (.iconst (-1), 1) := by decide +kernel
theorem dX11_left_38 : decode cX11_left 38 = .ok (.istore 5, 2) := by decide +kernel
theorem dX11_left_40 : decode cX11_left 40 = .ok (.iconst 1, 1) := by decide +kernel
theorem dX11_left_41 : decode cX11_left 41 = .ok (.aload_n 0, 1) := by decide +kernel
theorem dX11_left_42 : decode cX11_left 42 = .ok (.getfield 85, 3) := by decide +kernel
theorem dX11_left_45 : decode cX11_left 45 = .ok (.ishl, 1) := by decide +kernel
theorem dX11_left_46 : decode cX11_left 46 = .ok (.iconst 1, 1) := by decide +kernel
theorem dX11_left_47 : decode cX11_left 47 = .ok (.isub, 1) := by decide +kernel
theorem dX11_left_48 : decode cX11_left 48 = .ok (.istore 6, 2) := by decide +kernel
theorem dX11_left_50 : decode cX11_left 50 = .ok (.iload 6, 2) := by decide +kernel
theorem dX11_left_52 : decode cX11_left 52 = .ok (.ifCond .lt 27, 3) := by decide +kernel
theorem dX11_left_55 : decode cX11_left 55 = .ok (.aload_n 0, 1) := by decide +kernel
theorem dX11_left_56 : decode cX11_left 56 = .ok (.iload_n 1, 1) := by decide +kernel
theorem dX11_left_57 : decode cX11_left 57 = .ok (.iload 6, 2) := by decide +kernel
theorem dX11_left_59 : decode cX11_left 59 = .ok (.invokevirtual 286, 3) := by decide +kernel
theorem dX11_left_62 : decode cX11_left 62 = .ok (.iload_n 2, 1) := by decide +kernel
theorem dX11_left_63 : decode cX11_left 63 = .ok (.if_icmp .ne 10, 3) := by decide +kernel
theorem dX11_left_66 : decode cX11_left 66 = .ok (.iinc 4 1, 3) := by decide +kernel
theorem dX11_left_69 : decode cX11_left 69 = .ok (.iload 6, 2) := by decide +kernel
theorem dX11_left_71 : decode cX11_left 71 = .ok (.istore 5, 2) := by decide +kernel
theorem dX11_left_73 : decode cX11_left 73 = .ok (.iinc 6 (-1), 3) := by decide +kernel
theorem dX11_left_76 : decode cX11_left 76 = .ok (.goto (-26), 3) := by decide +kernel
theorem dX11_left_79 : decode cX11_left 79 = .ok (.iload_n 3, 1) := by decide +kernel
theorem dX11_left_80 : decode cX11_left 80 = .ok (.ifCond .ne 8, 3) := by decide +kernel
theorem dX11_left_83 : decode cX11_left 83 = .ok (.iload 4, 2) := by decide +kernel
theorem dX11_left_85 : decode cX11_left 85 = .ok (.goto 5, 3) := by decide +kernel
theorem dX11_left_88 : decode cX11_left 88 = .ok (.iload 5, 2) := by decide +kernel
theorem dX11_left_90 : decode cX11_left 90 = .ok (.ireturn, 1) := by decide +kernel
set_option maxRecDepth 20000 in
theorem ggX11_drip_X11_isCart : GoodIn wsX11_drip wsX11_isCart := goodIn_r _ [8, 9, 10, 11, 7, 12, 46, 47, 48, 49, 50, 51, 52, 53, 54, 55, 56, 57, 58, 59, 60, 61, 62, 63, 64, 65, 66, 67, 68, 69, 70, 71, 72, 73, 74, 75, 76, 77, 78, 79, 80, 81, 82, 83, 84] (by decide +kernel) (by decide +kernel)
set_option maxRecDepth 20000 in
theorem gX11_drip_X11_isCart : GoodIn wsX11_drip (wsV RX11 225 RX11 yX11_isCart wsX11_isCart) := goodIn_app (goodIn_of _ (by decide +kernel)) ggX11_drip_X11_isCart
set_option maxRecDepth 20000 in
theorem ggX11_drip_X11_isPlace : GoodIn wsX11_drip wsX11_isPlace := goodIn_r _ [16, 17, 10, 11, 7, 12, 46, 47, 48, 49, 50, 51, 52, 53, 54, 55, 56, 57, 58, 59, 60, 61, 62, 63, 64, 65, 66, 67, 68, 69, 70, 71, 72, 73, 74, 75, 76, 77, 78, 79, 80, 81, 82, 83, 84] (by decide +kernel) (by decide +kernel)
set_option maxRecDepth 20000 in
theorem gX11_drip_X11_isPlace : GoodIn wsX11_drip (wsV RX11 215 RX11 yX11_isPlace wsX11_isPlace) := goodIn_app (goodIn_of _ (by decide +kernel)) ggX11_drip_X11_isPlace
set_option maxRecDepth 20000 in
theorem ggX11_drip_X11_in : GoodIn wsX11_drip wsX11_in := goodIn_r _ [12] (by decide +kernel) (by decide +kernel)
set_option maxRecDepth 20000 in
theorem gX11_drip_X11_in : GoodIn wsX11_drip (va_wsS RX11 94 yX11_in wsX11_in) := goodIn_app (goodIn_of _ (by decide +kernel)) ggX11_drip_X11_in
set_option maxRecDepth 20000 in
theorem ggX11_drip_X11_endOf : GoodIn wsX11_drip wsX11_endOf := goodIn_r _ [21, 3, 46, 47, 48, 49, 50, 51, 52, 53, 54, 55, 56, 57, 58, 59, 60, 61, 62, 63, 64, 65, 66, 67, 68, 69, 70, 71, 72, 73, 74, 75, 76, 77, 78, 79, 80, 81, 82, 83, 84] (by decide +kernel) (by decide +kernel)
set_option maxRecDepth 20000 in
theorem gX11_drip_X11_endOf : GoodIn wsX11_drip (wsV RX11 218 RX11 yX11_endOf wsX11_endOf) := goodIn_app (goodIn_of _ (by decide +kernel)) ggX11_drip_X11_endOf
set_option maxRecDepth 20000 in
theorem ggX11_drip_X11_kindOf : GoodIn wsX11_drip wsX11_kindOf := goodIn_r _ [25, 26, 46, 47, 48, 49, 50, 51, 52, 53, 54, 55, 56, 57, 58, 59, 60, 61, 62, 63, 64, 65, 66, 67, 68, 69, 70, 71, 72, 73, 74, 75, 76, 77, 78, 79, 80, 81, 82, 83, 84] (by decide +kernel) (by decide +kernel)
set_option maxRecDepth 20000 in
theorem gX11_drip_X11_kindOf : GoodIn wsX11_drip (wsV RX11 228 RX11 yX11_kindOf wsX11_kindOf) := goodIn_app (goodIn_of _ (by decide +kernel)) ggX11_drip_X11_kindOf
set_option maxRecDepth 20000 in
theorem ggX11_drip_X11_strawOf : GoodIn wsX11_drip wsX11_strawOf := goodIn_r _ [30, 26, 46, 47, 48, 49, 50, 51, 52, 53, 54, 55, 56, 57, 58, 59, 60, 61, 62, 63, 64, 65, 66, 67, 68, 69, 70, 71, 72, 73, 74, 75, 76, 77, 78, 79, 80, 81, 82, 83, 84] (by decide +kernel) (by decide +kernel)
set_option maxRecDepth 20000 in
theorem gX11_drip_X11_strawOf : GoodIn wsX11_drip (wsV RX11 231 RX11 yX11_strawOf wsX11_strawOf) := goodIn_app (goodIn_of _ (by decide +kernel)) ggX11_drip_X11_strawOf
set_option maxRecDepth 20000 in
theorem ggX11_drip_X11_comesBy : GoodIn wsX11_drip wsX11_comesBy := goodIn_r _ [34, 3, 35, 36, 37, 7, 38, 39, 40, 41, 42, 43, 44, 45, 10, 11, 12, 46, 47, 48, 49, 50, 51, 52, 53, 54, 55, 56, 57, 58, 59, 60, 61, 62, 63, 64, 65, 66, 67, 68, 69, 70, 71, 72, 73, 74, 75, 76, 77, 78, 79, 80, 81, 82, 83, 84] (by decide +kernel) (by decide +kernel)
set_option maxRecDepth 20000 in
theorem gX11_drip_X11_comesBy : GoodIn wsX11_drip (wsV RX11 238 RX11 yX11_comesBy wsX11_comesBy) := goodIn_app (goodIn_of _ (by decide +kernel)) ggX11_drip_X11_comesBy
theorem dX11_drip_0 : decode cX11_drip 0 = .ok (.aload_n 0, 1) := by decide +kernel
theorem dX11_drip_1 : decode cX11_drip 1 = .ok (.iload_n 1, 1) := by decide +kernel
theorem dX11_drip_2 : decode cX11_drip 2 = .ok (.invokevirtual 225, 3) := by decide +kernel
theorem dX11_drip_5 : decode cX11_drip 5 = .ok (.ifCond .eq 21, 3) := by decide +kernel
theorem dX11_drip_8 : decode cX11_drip 8 = .ok (.aload_n 0, 1) := by decide +kernel
theorem dX11_drip_9 : decode cX11_drip 9 = .ok (.iload_n 2, 1) := by decide +kernel
theorem dX11_drip_10 : decode cX11_drip 10 = .ok (.invokevirtual 215, 3) := by decide +kernel
theorem dX11_drip_13 : decode cX11_drip 13 = .ok (.ifCond .eq 13, 3) := by decide +kernel
theorem dX11_drip_16 : decode cX11_drip 16 = .ok (.aload_n 0, 1) := by decide +kernel
theorem dX11_drip_17 : decode cX11_drip 17 = .ok (.getfield 25, 3) := by decide +kernel
theorem dX11_drip_20 : decode cX11_drip 20 = .ok (.iload_n 1, 1) := by decide +kernel
theorem dX11_drip_21 : decode cX11_drip 21 = .ok (.iaload, 1) := by decide +kernel
theorem dX11_drip_22 : decode cX11_drip 22 = .ok (.iload_n 2, 1) := by decide +kernel
theorem dX11_drip_23 : decode cX11_drip 23 = .ok (.if_icmp .ne 6, 3) := by decide +kernel
theorem dX11_drip_26 : decode cX11_drip 26 = .ok (.bipush (-2), 2) := by decide +kernel
theorem dX11_drip_28 : decode cX11_drip 28 = .ok (.ireturn, 1) := by decide +kernel
theorem dX11_drip_29 : decode cX11_drip 29 = .ok (.iload_n 3, 1) := by decide +kernel
theorem dX11_drip_30 : decode cX11_drip 30 = .ok (.iconst 0, 1) := by decide +kernel
theorem dX11_drip_31 : decode cX11_drip 31 = .ok (.bipush 99, 2) := by decide +kernel
theorem dX11_drip_33 : decode cX11_drip 33 = .ok (.invokestatic 94, 3) := by decide +kernel
theorem dX11_drip_36 : decode cX11_drip 36 = .ok (.ifCond .ne 6, 3) := by decide +kernel
theorem dX11_drip_39 : decode cX11_drip 39 = .ok (.bipush (-3), 2) := by decide +kernel
theorem dX11_drip_41 : decode cX11_drip 41 = .ok (.ireturn, 1) := by decide +kernel
theorem dX11_drip_42 : decode cX11_drip 42 = .ok (.iconst 0, 1) := by decide +kernel
theorem dX11_drip_43 : decode cX11_drip 43 = .ok (.istore 4, 2) := by decide +kernel
theorem dX11_drip_45 : decode cX11_drip 45 = .ok (.iconst 0, 1) := by decide +kernel
theorem dX11_drip_46 : decode cX11_drip 46 = .ok (.istore 5, 2) := by decide +kernel
theorem dX11_drip_48 : decode cX11_drip 48 = .ok (.iload 5, 2) := by decide +kernel
theorem dX11_drip_50 : decode cX11_drip 50 = .ok (.aload_n 0, 1) := by decide +kernel
theorem dX11_drip_51 : decode cX11_drip 51 = .ok (.getfield 98, 3) := by decide +kernel
theorem dX11_drip_54 : decode cX11_drip 54 = .ok (.if_icmp .ge 112, 3) := by decide +kernel
theorem dX11_drip_57 : decode cX11_drip 57 = .ok (.aload_n 0, 1) := by decide +kernel
theorem dX11_drip_58 : decode cX11_drip 58 = .ok (.iload 5, 2) := by decide +kernel
theorem dX11_drip_60 : decode cX11_drip 60 = .ok (.aload_n 0, 1) := by decide +kernel
theorem dX11_drip_61 : decode cX11_drip 61 = .ok (.getfield 25, 3) := by decide +kernel
theorem dX11_drip_64 : decode cX11_drip 64 = .ok (.iload_n 1, 1) := by decide +kernel
theorem dX11_drip_65 : decode cX11_drip 65 = .ok (.iaload, 1) := by decide +kernel
theorem dX11_drip_66 : decode cX11_drip 66 = .ok (.invokevirtual 218, 3) := by decide +kernel
theorem dX11_drip_69 : decode cX11_drip 69 = .ok (.iload_n 2, 1) := by decide +kernel
theorem dX11_drip_70 : decode cX11_drip 70 = .ok (.if_icmp .ne 32, 3) := by decide +kernel
theorem dX11_drip_73 : decode cX11_drip 73 = .ok (.aload_n 0, 1) := by decide +kernel
theorem dX11_drip_74 : decode cX11_drip 74 = .ok (.getfield 25, 3) := by decide +kernel
theorem dX11_drip_77 : decode cX11_drip 77 = .ok (.iconst 4, 1) := by decide +kernel
theorem dX11_drip_78 : decode cX11_drip 78 = .ok (.iload_n 1, 1) := by decide +kernel
theorem dX11_drip_79 : decode cX11_drip 79 = .ok (.iadd, 1) := by decide +kernel
theorem dX11_drip_80 : decode cX11_drip 80 = .ok (.iaload, 1) := by decide +kernel
theorem dX11_drip_81 : decode cX11_drip 81 = .ok (.aload_n 0, 1) := by decide +kernel
theorem dX11_drip_82 : decode cX11_drip 82 = .ok (.getfield 13, 3) := by decide +kernel
theorem dX11_drip_85 : decode cX11_drip 85 = .ok (.iconst 4, 1) := by decide +kernel
theorem dX11_drip_86 : decode cX11_drip 86 = .ok (.iload 5, 2) := by decide +kernel
theorem dX11_drip_88 : decode cX11_drip 88 = .ok (.imul, 1) := by decide +kernel
theorem dX11_drip_89 : decode cX11_drip 89 = .ok (.iconst 2, 1) := by decide +kernel
theorem dX11_drip_90 : decode cX11_drip 90 = .ok (.iadd, 1) := by decide +kernel
theorem dX11_drip_91 : decode cX11_drip 91 = .ok (.iaload, 1) := by decide +kernel
theorem dX11_drip_92 : decode cX11_drip 92 = .ok (.iadd, 1) := by decide +kernel
theorem dX11_drip_93 : decode cX11_drip 93 = .ok (.bipush 48, 2) := by decide +kernel
theorem dX11_drip_95 : decode cX11_drip 95 = .ok (.if_icmp .gt 7, 3) := by decide +kernel
theorem dX11_drip_98 : decode cX11_drip 98 = .ok (.iconst 1, 1) := by decide +kernel
theorem dX11_drip_99 : decode cX11_drip 99 = .ok (.goto 4, 3) := by decide +kernel
theorem dX11_drip_102 : decode cX11_drip 102 = .ok (.iconst 0, 1) := by decide +kernel
theorem dX11_drip_103 : decode cX11_drip 103 = .ok (.istore 6, 2) := by decide +kernel
theorem dX11_drip_105 : decode cX11_drip 105 = .ok (.iload 4, 2) := by decide +kernel
theorem dX11_drip_107 : decode cX11_drip 107 = .ok (.iload 6, 2) := by decide +kernel
theorem dX11_drip_109 : decode cX11_drip 109 = .ok (.ifCond .eq 47, 3) := by decide +kernel
theorem dX11_drip_112 : decode cX11_drip 112 = .ok (.aload_n 0, 1) := by decide +kernel
theorem dX11_drip_113 : decode cX11_drip 113 = .ok (.iload 5, 2) := by decide +kernel
theorem dX11_drip_115 : decode cX11_drip 115 = .ok (.aload_n 0, 1) := by decide +kernel
theorem dX11_drip_116 : decode cX11_drip 116 = .ok (.getfield 25, 3) := by decide +kernel
theorem dX11_drip_119 : decode cX11_drip 119 = .ok (.bipush 8, 2) := by decide +kernel
theorem dX11_drip_121 : decode cX11_drip 121 = .ok (.iload_n 1, 1) := by decide +kernel
theorem dX11_drip_122 : decode cX11_drip 122 = .ok (.iadd, 1) := by decide +kernel
theorem dX11_drip_123 : decode cX11_drip 123 = .ok (.iaload, 1) := by decide +kernel
theorem dX11_drip_124 : decode cX11_drip 124 = .ok (.aload_n 0, 1) := by decide +kernel
theorem dX11_drip_125 : decode cX11_drip 125 = .ok (.iload_n 1, 1) := by decide +kernel
theorem dX11_drip_126 : decode cX11_drip 126 = .ok (.invokevirtual 228, 3) := by decide +kernel
theorem dX11_drip_129 : decode cX11_drip 129 = .ok (.aload_n 0, 1) := by decide +kernel
theorem dX11_drip_130 : decode cX11_drip 130 = .ok (.iload_n 1, 1) := by decide +kernel
theorem dX11_drip_131 : decode cX11_drip 131 = .ok (.invokevirtual 231, 3) := by decide +kernel
theorem dX11_drip_134 : decode cX11_drip 134 = .ok (.aload_n 0, 1) := by decide +kernel
theorem dX11_drip_135 : decode cX11_drip 135 = .ok (.getfield 25, 3) := by decide +kernel
theorem dX11_drip_138 : decode cX11_drip 138 = .ok (.iconst 4, 1) := by decide +kernel
theorem dX11_drip_139 : decode cX11_drip 139 = .ok (.iload_n 1, 1) := by decide +kernel
theorem dX11_drip_140 : decode cX11_drip 140 = .ok (.iadd, 1) := by decide +kernel
theorem dX11_drip_141 : decode cX11_drip 141 = .ok (.iaload, 1) := by decide +kernel
theorem dX11_drip_142 : decode cX11_drip 142 = .ok (.invokevirtual 238, 3) := by decide +kernel
theorem dX11_drip_145 : decode cX11_drip 145 = .ok (.iload_n 3, 1) := by decide +kernel
theorem dX11_drip_146 : decode cX11_drip 146 = .ok (.if_icmp .ne 10, 3) := by decide +kernel
theorem dX11_drip_149 : decode cX11_drip 149 = .ok (.iconst 1, 1) := by decide +kernel
theorem dX11_drip_150 : decode cX11_drip 150 = .ok (.iload 5, 2) := by decide +kernel
theorem dX11_drip_152 : decode cX11_drip 152 = .ok (.ishl, 1) := by decide +kernel
theorem dX11_drip_153 : decode cX11_drip 153 = .ok (.goto 4, 3) := by decide +kernel
theorem dX11_drip_156 : decode cX11_drip 156 = .ok (.iconst 0, 1) := by decide +kernel
theorem dX11_drip_157 : decode cX11_drip 157 = .ok (.ior, 1) := by decide +kernel
theorem dX11_drip_158 : decode cX11_drip 158 = .ok (.istore 4, 2) := by decide +kernel
theorem dX11_drip_160 : decode cX11_drip 160 = .ok (.iinc 5 1, 3) := by decide +kernel
theorem dX11_drip_163 : decode cX11_drip 163 = .ok (.goto (-115), 3) := by decide +kernel
theorem dX11_drip_166 : decode cX11_drip 166 = .ok (.iload 4, 2) := by decide +kernel
theorem dX11_drip_168 : decode cX11_drip 168 = .ok (.ireturn, 1) := by decide +kernel
set_option maxRecDepth 20000 in
theorem ggX11_seal_X11_in : GoodIn wsX11_seal wsX11_in := goodIn_r _ [9] (by decide +kernel) (by decide +kernel)
set_option maxRecDepth 20000 in
theorem gX11_seal_X11_in : GoodIn wsX11_seal (va_wsS RX11 94 yX11_in wsX11_in) := goodIn_app (goodIn_of _ (by decide +kernel)) ggX11_seal_X11_in
set_option maxRecDepth 20000 in
theorem ggX11_seal_X11_root : GoodIn wsX11_seal wsX11_root := goodIn_r _ [12] (by decide +kernel) (by decide +kernel)
set_option maxRecDepth 20000 in
theorem gX11_seal_X11_root : GoodIn wsX11_seal (va_wsS RX11 204 yX11_root wsX11_root) := goodIn_app (goodIn_of _ (by decide +kernel)) ggX11_seal_X11_root
theorem dX11_seal_0 : decode cX11_seal 0 = .ok (.iload_n 1, 1) := by decide +kernel
theorem dX11_seal_1 : decode cX11_seal 1 = .ok (.iconst 0, 1) := by decide +kernel
theorem dX11_seal_2 : decode cX11_seal 2 = .ok (.bipush 99, 2) := by decide +kernel
theorem dX11_seal_4 : decode cX11_seal 4 = .ok (.invokestatic 94, 3) := by decide +kernel
theorem dX11_seal_7 : decode cX11_seal 7 = .ok (.ifCond .eq 33, 3) := by decide +kernel
theorem dX11_seal_10 : decode cX11_seal 10 = .ok (.iload_n 2, 1) := by decide +kernel
theorem dX11_seal_11 : decode cX11_seal 11 = .ok (.iconst 1, 1) := by decide +kernel
theorem dX11_seal_12 : decode cX11_seal 12 = .ok (.bipush 6, 2) := by decide +kernel
theorem dX11_seal_14 : decode cX11_seal 14 = .ok (.invokestatic 94, 3) := by decide +kernel
theorem dX11_seal_17 : decode cX11_seal 17 = .ok (.ifCond .eq 23, 3) := by decide +kernel
theorem dX11_seal_20 : decode cX11_seal 20 = .ok (.iload_n 3, 1) := by decide +kernel
theorem dX11_seal_21 : decode cX11_seal 21 = .ok (.iconst 0, 1) := by decide +kernel
theorem dX11_seal_22 : decode cX11_seal 22 = .ok (.bipush 10, 2) := by decide +kernel
theorem dX11_seal_24 : decode cX11_seal 24 = .ok (.invokestatic 94, 3) := by decide +kernel
theorem dX11_seal_27 : decode cX11_seal 27 = .ok (.ifCond .eq 13, 3) := by decide +kernel
theorem dX11_seal_30 : decode cX11_seal 30 = .ok (.iload 4, 2) := by decide +kernel
theorem dX11_seal_32 : decode cX11_seal 32 = .ok (.iconst 0, 1) := by decide +kernel
theorem dX11_seal_33 : decode cX11_seal 33 = .ok (.iconst 1, 1) := by decide +kernel
theorem dX11_seal_34 : decode cX11_seal 34 = .ok (.invokestatic 94, 3) := by decide +kernel
theorem dX11_seal_37 : decode cX11_seal 37 = .ok (.ifCond .ne 7, 3) := by decide +kernel
theorem dX11_seal_40 : decode cX11_seal 40 = .ok (.ldc2_w 130, 3) := by decide +kernel
theorem dX11_seal_43 : decode cX11_seal 43 = .ok (.lreturn, 1) := by decide +kernel
theorem dX11_seal_44 : decode cX11_seal 44 = .ok (.iconst 0, 1) := by decide +kernel
theorem dX11_seal_45 : decode cX11_seal 45 = .ok (.istore 5, 2) := by decide +kernel
theorem dX11_seal_47 : decode cX11_seal 47 = .ok (.iload 5, 2) := by decide +kernel
theorem dX11_seal_49 : decode cX11_seal 49 = .ok (.bipush 100, 2) := by decide +kernel
theorem dX11_seal_51 : decode cX11_seal 51 = .ok (.if_icmp .ge 17, 3) := by decide +kernel
theorem dX11_seal_54 : decode cX11_seal 54 = .ok (.aload_n 0, 1) := by decide +kernel
theorem dX11_seal_55 : decode cX11_seal 55 = .ok (.getfield 72, 3) := by decide +kernel
theorem dX11_seal_58 : decode cX11_seal 58 = .ok (.iload 5, 2) := by decide +kernel
theorem dX11_seal_60 : decode cX11_seal 60 = .ok (.lconst 0, 1) := by decide +kernel
theorem dX11_seal_61 : decode cX11_seal 61 = .ok (.lastore, 1) := by decide +kernel
theorem dX11_seal_62 : decode cX11_seal 62 = .ok (.iinc 5 1, 3) := by decide +kernel
theorem dX11_seal_65 : decode cX11_seal 65 = .ok (.goto (-18), 3) := by decide +kernel
theorem dX11_seal_68 : decode cX11_seal 68 = .ok (.lconst 1, 1) := by decide +kernel
theorem dX11_seal_69 : decode cX11_seal 69 = .ok (.lstore 5, 2) := by decide +kernel
theorem dX11_seal_71 : decode cX11_seal 71 = .ok (.iconst 0, 1) := by decide +kernel
theorem dX11_seal_72 : decode cX11_seal 72 = .ok (.istore 7, 2) := by decide +kernel
theorem dX11_seal_74 : decode cX11_seal 74 = .ok (.iload 7, 2) := by decide +kernel
theorem dX11_seal_76 : decode cX11_seal 76 = .ok (.iload_n 2, 1) := by decide +kernel
theorem dX11_seal_77 : decode cX11_seal 77 = .ok (.if_icmp .ge 146, 3) := by decide +kernel
theorem dX11_seal_80 : decode cX11_seal 80 = .ok (.bipush 99, 2) := by decide +kernel
theorem dX11_seal_82 : decode cX11_seal 82 = .ok (.istore 8, 2) := by decide +kernel
theorem dX11_seal_84 : decode cX11_seal 84 = .ok (.iload 8, 2) := by decide +kernel
theorem dX11_seal_86 : decode cX11_seal 86 = .ok (.ifCond .lt 123, 3) := by decide +kernel
theorem dX11_seal_89 : decode cX11_seal 89 = .ok (.aload_n 0, 1) := by decide +kernel
theorem dX11_seal_90 : decode cX11_seal 90 = .ok (.getfield 72, 3) := by decide +kernel
theorem dX11_seal_93 : decode cX11_seal 93 = .ok (.iload 8, 2) := by decide +kernel
theorem dX11_seal_95 : decode cX11_seal 95 = .ok (.iload 8, 2) := by decide +kernel
theorem dX11_seal_97 : decode cX11_seal 97 = .ok (.invokestatic 204, 3) := by decide +kernel
theorem dX11_seal_100 : decode cX11_seal 100 = .ok (.isub, 1) := by decide +kernel
theorem dX11_seal_101 : decode cX11_seal 101 = .ok (.laload, 1) := by decide +kernel
theorem dX11_seal_102 : decode cX11_seal 102 = .ok (.lstore 9, 2) := by decide +kernel
theorem dX11_seal_104 : decode cX11_seal 104 = .ok (.ldc2_w 289, 3) := by decide +kernel
theorem dX11_seal_107 : decode cX11_seal 107 = .ok (.iload 8, 2) := by decide +kernel
theorem dX11_seal_109 : decode cX11_seal 109 = .ok (.i2l, 1) := by decide +kernel
theorem dX11_seal_110 : decode cX11_seal 110 = .ok (.lmul, 1) := by decide +kernel
theorem dX11_seal_111 : decode cX11_seal 111 = .ok (.lload 5, 2) := by decide +kernel
theorem dX11_seal_113 : decode cX11_seal 113 = .ok (.lmul, 1) := by decide +kernel
theorem dX11_seal_114 : decode cX11_seal 114 = .ok (.lstore 11, 2) := by decide +kernel
theorem dX11_seal_116 : decode cX11_seal 116 = .ok (.ldc2_w 291, 3) := by decide +kernel
theorem dX11_seal_119 : decode cX11_seal 119 = .ok (.iload 8, 2) := by decide +kernel
theorem dX11_seal_121 : decode cX11_seal 121 = .ok (.i2l, 1) := by decide +kernel
theorem dX11_seal_122 : decode cX11_seal 122 = .ok (.lmul, 1) := by decide +kernel
theorem dX11_seal_123 : decode cX11_seal 123 = .ok (.lload 5, 2) := by decide +kernel
theorem dX11_seal_125 : decode cX11_seal 125 = .ok (.lmul, 1) := by decide +kernel
theorem dX11_seal_126 : decode cX11_seal 126 = .ok (.lstore 13, 2) := by decide +kernel
theorem dX11_seal_128 : decode cX11_seal 128 = .ok (.iload 7, 2) := by decide +kernel
theorem dX11_seal_130 : decode cX11_seal 130 = .ok (.ifCond .le 16, 3) := by decide +kernel
theorem dX11_seal_133 : decode cX11_seal 133 = .ok (.lload 9, 2) := by decide +kernel
theorem dX11_seal_135 : decode cX11_seal 135 = .ok (.lload 11, 2) := by decide +kernel
theorem dX11_seal_137 : decode cX11_seal 137 = .ok (.lcmp, 1) := by decide +kernel
theorem dX11_seal_138 : decode cX11_seal 138 = .ok (.ifCond .le 8, 3) := by decide +kernel
theorem dX11_seal_141 : decode cX11_seal 141 = .ok (.lload 9, 2) := by decide +kernel
theorem dX11_seal_143 : decode cX11_seal 143 = .ok (.goto 5, 3) := by decide +kernel
theorem dX11_seal_146 : decode cX11_seal 146 = .ok (.lload 11, 2) := by decide +kernel
theorem dX11_seal_148 : decode cX11_seal 148 = .ok (.lstore 11, 2) := by decide +kernel
theorem dX11_seal_150 : decode cX11_seal 150 = .ok (.iload 7, 2) := by decide +kernel
theorem dX11_seal_152 : decode cX11_seal 152 = .ok (.ifCond .le 26, 3) := by decide +kernel
theorem dX11_seal_155 : decode cX11_seal 155 = .ok (.aload_n 0, 1) := by decide +kernel
theorem dX11_seal_156 : decode cX11_seal 156 = .ok (.getfield 72, 3) := by decide +kernel
theorem dX11_seal_159 : decode cX11_seal 159 = .ok (.iload 8, 2) := by decide +kernel
theorem dX11_seal_161 : decode cX11_seal 161 = .ok (.laload, 1) := by decide +kernel
theorem dX11_seal_162 : decode cX11_seal 162 = .ok (.lload 13, 2) := by decide +kernel
theorem dX11_seal_164 : decode cX11_seal 164 = .ok (.lcmp, 1) := by decide +kernel
theorem dX11_seal_165 : decode cX11_seal 165 = .ok (.ifCond .le 13, 3) := by decide +kernel
theorem dX11_seal_168 : decode cX11_seal 168 = .ok (.aload_n 0, 1) := by decide +kernel
theorem dX11_seal_169 : decode cX11_seal 169 = .ok (.getfield 72, 3) := by decide +kernel
theorem dX11_seal_172 : decode cX11_seal 172 = .ok (.iload 8, 2) := by decide +kernel
theorem dX11_seal_174 : decode cX11_seal 174 = .ok (.laload, 1) := by decide +kernel
theorem dX11_seal_175 : decode cX11_seal 175 = .ok (.goto 5, 3) := by decide +kernel
theorem dX11_seal_178 : decode cX11_seal 178 = .ok (.lload 13, 2) := by decide +kernel
theorem dX11_seal_180 : decode cX11_seal 180 = .ok (.lstore 13, 2) := by decide +kernel
theorem dX11_seal_182 : decode cX11_seal 182 = .ok (.aload_n 0, 1) := by decide +kernel
theorem dX11_seal_183 : decode cX11_seal 183 = .ok (.getfield 72, 3) := by decide +kernel
theorem dX11_seal_186 : decode cX11_seal 186 = .ok (.iload 8, 2) := by decide +kernel
theorem dX11_seal_188 : decode cX11_seal 188 = .ok (.iload_n 3, 1) := by decide +kernel
theorem dX11_seal_189 : decode cX11_seal 189 = .ok (.i2l, 1) := by decide +kernel
theorem dX11_seal_190 : decode cX11_seal 190 = .ok (.lload 11, 2) := by decide +kernel
theorem dX11_seal_192 : decode cX11_seal 192 = .ok (.lmul, 1) := by decide +kernel
theorem dX11_seal_193 : decode cX11_seal 193 = .ok (.bipush 10, 2) := by decide +kernel
theorem dX11_seal_195 : decode cX11_seal 195 = .ok (.iload_n 3, 1) := by decide +kernel
theorem dX11_seal_196 : decode cX11_seal 196 = .ok (.isub, 1) := by decide +kernel
theorem dX11_seal_197 : decode cX11_seal 197 = .ok (.i2l, 1) := by decide +kernel
theorem dX11_seal_198 : decode cX11_seal 198 = .ok (.lload 13, 2) := by decide +kernel
theorem dX11_seal_200 : decode cX11_seal 200 = .ok (.lmul, 1) := by decide +kernel
theorem dX11_seal_201 : decode cX11_seal 201 = .ok (.ladd, 1) := by decide +kernel
theorem dX11_seal_202 : decode cX11_seal 202 = .ok (.lastore, 1) := by decide +kernel
theorem dX11_seal_203 : decode cX11_seal 203 = .ok (.iinc 8 (-1), 3) := by decide +kernel
theorem dX11_seal_206 : decode cX11_seal 206 = .ok (.goto (-122), 3) := by decide +kernel
theorem dX11_seal_209 : decode cX11_seal 209 = .ok (.lload 5, 2) := by decide +kernel
theorem dX11_seal_211 : decode cX11_seal 211 = .ok (.ldc2_w 293, 3) := by decide +kernel
theorem dX11_seal_214 : decode cX11_seal 214 = .ok (.lmul, 1) := by decide +kernel
theorem dX11_seal_215 : decode cX11_seal 215 = .ok (.lstore 5, 2) := by decide +kernel
theorem dX11_seal_217 : decode cX11_seal 217 = .ok (.iinc 7 1, 3) := by decide +kernel
theorem dX11_seal_220 : decode cX11_seal 220 = .ok (.goto (-146), 3) := by decide +kernel
theorem dX11_seal_223 : decode cX11_seal 223 = .ok (.aload_n 0, 1) := by decide +kernel
theorem dX11_seal_224 : decode cX11_seal 224 = .ok (.getfield 72, 3) := by decide +kernel
theorem dX11_seal_227 : decode cX11_seal 227 = .ok (.iload_n 1, 1) := by decide +kernel
theorem dX11_seal_228 : decode cX11_seal 228 = .ok (.laload, 1) := by decide +kernel
theorem dX11_seal_229 : decode cX11_seal 229 = .ok (.lstore 7, 2) := by decide +kernel
theorem dX11_seal_231 : decode cX11_seal 231 = .ok (.lload 5, 2) := by decide +kernel
theorem dX11_seal_233 : decode cX11_seal 233 = .ok (.lstore 9, 2) := by decide +kernel
theorem dX11_seal_235 : decode cX11_seal 235 = .ok (.lload 9, 2) := by decide +kernel
theorem dX11_seal_237 : decode cX11_seal 237 = .ok (.lconst 0, 1) := by decide +kernel
theorem dX11_seal_238 : decode cX11_seal 238 = .ok (.lcmp, 1) := by decide +kernel
theorem dX11_seal_239 : decode cX11_seal 239 = .ok (.ifCond .le 21, 3) := by decide +kernel
theorem dX11_seal_242 : decode cX11_seal 242 = .ok (.lload 7, 2) := by decide +kernel
theorem dX11_seal_244 : decode cX11_seal 244 = .ok (.lload 9, 2) := by decide +kernel
theorem dX11_seal_246 : decode cX11_seal 246 = .ok (.lrem, 1) := by decide +kernel
theorem dX11_seal_247 : decode cX11_seal 247 = .ok (.lstore 11, 2) := by decide +kernel
theorem dX11_seal_249 : decode cX11_seal 249 = .ok (.lload 9, 2) := by decide +kernel
theorem dX11_seal_251 : decode cX11_seal 251 = .ok (.lstore 7, 2) := by decide +kernel
theorem dX11_seal_253 : decode cX11_seal 253 = .ok (.lload 11, 2) := by decide +kernel
theorem dX11_seal_255 : decode cX11_seal 255 = .ok (.lstore 9, 2) := by decide +kernel
theorem dX11_seal_257 : decode cX11_seal 257 = .ok (.goto (-22), 3) := by decide +kernel
theorem dX11_seal_260 : decode cX11_seal 260 = .ok (.iload 4, 2) := by decide +kernel
theorem dX11_seal_262 : decode cX11_seal 262 = .ok (.ifCond .ne 12, 3) := by decide +kernel
theorem dX11_seal_265 : decode cX11_seal 265 = .ok (.aload_n 0, 1) := by decide +kernel
theorem dX11_seal_266 : decode cX11_seal 266 = .ok (.getfield 72, 3) := by decide +kernel
theorem dX11_seal_269 : decode cX11_seal 269 = .ok (.iload_n 1, 1) := by decide +kernel
theorem dX11_seal_270 : decode cX11_seal 270 = .ok (.laload, 1) := by decide +kernel
theorem dX11_seal_271 : decode cX11_seal 271 = .ok (.goto 5, 3) := by decide +kernel
theorem dX11_seal_274 : decode cX11_seal 274 = .ok (.lload 5, 2) := by decide +kernel
theorem dX11_seal_276 : decode cX11_seal 276 = .ok (.lload 7, 2) := by decide +kernel
theorem dX11_seal_278 : decode cX11_seal 278 = .ok (.ldiv, 1) := by decide +kernel
theorem dX11_seal_279 : decode cX11_seal 279 = .ok (.lreturn, 1) := by decide +kernel
set_option maxRecDepth 20000 in
theorem ggX11_canGo_X11_endOf : GoodIn wsX11_canGo wsX11_endOf := goodIn_r _ [7, 2, 8, 9, 10, 11, 12, 13, 14, 15, 16, 17, 18, 19, 20, 21, 22, 23, 24, 25, 26, 27, 28, 29, 30, 31, 32, 33, 34, 35, 36, 37, 38, 39, 40, 41, 42, 43, 44, 45, 46] (by decide +kernel) (by decide +kernel)
set_option maxRecDepth 20000 in
theorem gX11_canGo_X11_endOf : GoodIn wsX11_canGo (wsV RX11 218 RX11 yX11_endOf wsX11_endOf) := goodIn_app (goodIn_of _ (by decide +kernel)) ggX11_canGo_X11_endOf
theorem dX11_canGo_0 : decode cX11_canGo 0 = .ok (.aload_n 0, 1) := by decide +kernel
theorem dX11_canGo_1 : decode cX11_canGo 1 = .ok (.iload_n 2, 1) := by decide +kernel
theorem dX11_canGo_2 : decode cX11_canGo 2 = .ok (.aload_n 0, 1) := by decide +kernel
theorem dX11_canGo_3 : decode cX11_canGo 3 = .ok (.getfield 25, 3) := by decide +kernel
theorem dX11_canGo_6 : decode cX11_canGo 6 = .ok (.iload_n 1, 1) := by decide +kernel
theorem dX11_canGo_7 : decode cX11_canGo 7 = .ok (.iaload, 1) := by decide +kernel
theorem dX11_canGo_8 : decode cX11_canGo 8 = .ok (.invokevirtual 218, 3) := by decide +kernel
theorem dX11_canGo_11 : decode cX11_canGo 11 = .ok (.iconst (-1), 1) := by decide +kernel
theorem dX11_canGo_12 : decode cX11_canGo 12 = .ok (.if_icmp .eq 31, 3) := by decide +kernel
theorem dX11_canGo_15 : decode cX11_canGo 15 = .ok (.aload_n 0, 1) := by decide +kernel
theorem dX11_canGo_16 : decode cX11_canGo 16 = .ok (.getfield 25, 3) := by decide +kernel
theorem dX11_canGo_19 : decode cX11_canGo 19 = .ok (.iconst 4, 1) := by decide +kernel
theorem dX11_canGo_20 : decode cX11_canGo 20 = .ok (.iload_n 1, 1) := by decide +kernel
theorem dX11_canGo_21 : decode cX11_canGo 21 = .ok (.iadd, 1) := by decide +kernel
theorem dX11_canGo_22 : decode cX11_canGo 22 = .ok (.iaload, 1) := by decide +kernel
theorem dX11_canGo_23 : decode cX11_canGo 23 = .ok (.aload_n 0, 1) := by decide +kernel
theorem dX11_canGo_24 : decode cX11_canGo 24 = .ok (.getfield 13, 3) := by decide +kernel
theorem dX11_canGo_27 : decode cX11_canGo 27 = .ok (.iconst 4, 1) := by decide +kernel
theorem dX11_canGo_28 : decode cX11_canGo 28 = .ok (.iload_n 2, 1) := by decide +kernel
theorem dX11_canGo_29 : decode cX11_canGo 29 = .ok (.imul, 1) := by decide +kernel
theorem dX11_canGo_30 : decode cX11_canGo 30 = .ok (.iconst 2, 1) := by decide +kernel
theorem dX11_canGo_31 : decode cX11_canGo 31 = .ok (.iadd, 1) := by decide +kernel
theorem dX11_canGo_32 : decode cX11_canGo 32 = .ok (.iaload, 1) := by decide +kernel
theorem dX11_canGo_33 : decode cX11_canGo 33 = .ok (.iadd, 1) := by decide +kernel
theorem dX11_canGo_34 : decode cX11_canGo 34 = .ok (.bipush 48, 2) := by decide +kernel
theorem dX11_canGo_36 : decode cX11_canGo 36 = .ok (.if_icmp .gt 7, 3) := by decide +kernel
theorem dX11_canGo_39 : decode cX11_canGo 39 = .ok (.iconst 1, 1) := by decide +kernel
theorem dX11_canGo_40 : decode cX11_canGo 40 = .ok (.goto 4, 3) := by decide +kernel
theorem dX11_canGo_43 : decode cX11_canGo 43 = .ok (.iconst 0, 1) := by decide +kernel
theorem dX11_canGo_44 : decode cX11_canGo 44 = .ok (.ireturn, 1) := by decide +kernel
set_option maxRecDepth 20000 in
theorem ggX11_rentOf_X11_kindOf : GoodIn wsX11_rentOf wsX11_kindOf := goodIn_r _ [7, 8, 34, 35, 36, 37, 38, 39, 40, 41, 42, 43, 44, 45, 46, 47, 48, 49, 50, 51, 52, 53, 54, 55, 56, 57, 58, 59, 60, 61, 62, 63, 64, 65, 66, 67, 68, 69, 70, 71, 72] (by decide +kernel) (by decide +kernel)
set_option maxRecDepth 20000 in
theorem gX11_rentOf_X11_kindOf : GoodIn wsX11_rentOf (wsV RX11 228 RX11 yX11_kindOf wsX11_kindOf) := goodIn_app (goodIn_of _ (by decide +kernel)) ggX11_rentOf_X11_kindOf
set_option maxRecDepth 20000 in
theorem ggX11_rentOf_X11_strawOf : GoodIn wsX11_rentOf wsX11_strawOf := goodIn_r _ [12, 8, 34, 35, 36, 37, 38, 39, 40, 41, 42, 43, 44, 45, 46, 47, 48, 49, 50, 51, 52, 53, 54, 55, 56, 57, 58, 59, 60, 61, 62, 63, 64, 65, 66, 67, 68, 69, 70, 71, 72] (by decide +kernel) (by decide +kernel)
set_option maxRecDepth 20000 in
theorem gX11_rentOf_X11_strawOf : GoodIn wsX11_rentOf (wsV RX11 231 RX11 yX11_strawOf wsX11_strawOf) := goodIn_app (goodIn_of _ (by decide +kernel)) ggX11_rentOf_X11_strawOf
set_option maxRecDepth 20000 in
theorem ggX11_rentOf_X11_comesBy : GoodIn wsX11_rentOf wsX11_comesBy := goodIn_r _ [16, 2, 17, 18, 19, 6, 20, 21, 22, 23, 24, 25, 26, 27, 28, 29, 30, 34, 35, 36, 37, 38, 39, 40, 41, 42, 43, 44, 45, 46, 47, 48, 49, 50, 51, 52, 53, 54, 55, 56, 57, 58, 59, 60, 61, 62, 63, 64, 65, 66, 67, 68, 69, 70, 71, 72] (by decide +kernel) (by decide +kernel)
set_option maxRecDepth 20000 in
theorem gX11_rentOf_X11_comesBy : GoodIn wsX11_rentOf (wsV RX11 238 RX11 yX11_comesBy wsX11_comesBy) := goodIn_app (goodIn_of _ (by decide +kernel)) ggX11_rentOf_X11_comesBy
set_option maxRecDepth 20000 in
theorem ggX11_rentOf_X11_priceIn : GoodIn wsX11_rentOf wsX11_priceIn := goodIn_r _ [33] (by decide +kernel) (by decide +kernel)
set_option maxRecDepth 20000 in
theorem gX11_rentOf_X11_priceIn : GoodIn wsX11_rentOf (va_wsS RX11 241 yX11_priceIn wsX11_priceIn) := goodIn_app (goodIn_of _ (by decide +kernel)) ggX11_rentOf_X11_priceIn
theorem dX11_rentOf_0 : decode cX11_rentOf 0 = .ok (.aload_n 0, 1) := by decide +kernel
theorem dX11_rentOf_1 : decode cX11_rentOf 1 = .ok (.iload_n 2, 1) := by decide +kernel
theorem dX11_rentOf_2 : decode cX11_rentOf 2 = .ok (.aload_n 0, 1) := by decide +kernel
theorem dX11_rentOf_3 : decode cX11_rentOf 3 = .ok (.getfield 25, 3) := by decide +kernel
theorem dX11_rentOf_6 : decode cX11_rentOf 6 = .ok (.bipush 8, 2) := by decide +kernel
theorem dX11_rentOf_8 : decode cX11_rentOf 8 = .ok (.iload_n 1, 1) := by decide +kernel
theorem dX11_rentOf_9 : decode cX11_rentOf 9 = .ok (.iadd, 1) := by decide +kernel
theorem dX11_rentOf_10 : decode cX11_rentOf 10 = .ok (.iaload, 1) := by decide +kernel
theorem dX11_rentOf_11 : decode cX11_rentOf 11 = .ok (.aload_n 0, 1) := by decide +kernel
theorem dX11_rentOf_12 : decode cX11_rentOf 12 = .ok (.iload_n 1, 1) := by decide +kernel
theorem dX11_rentOf_13 : decode cX11_rentOf 13 = .ok (.invokevirtual 228, 3) := by decide +kernel
theorem dX11_rentOf_16 : decode cX11_rentOf 16 = .ok (.aload_n 0, 1) := by decide +kernel
theorem dX11_rentOf_17 : decode cX11_rentOf 17 = .ok (.iload_n 1, 1) := by decide +kernel
theorem dX11_rentOf_18 : decode cX11_rentOf 18 = .ok (.invokevirtual 231, 3) := by decide +kernel
