theorem dX11_rentOf_21 : decode cX11_rentOf 21 = .ok (.aload_n 0, 1) := by decide +kernel
theorem dX11_rentOf_22 : decode cX11_rentOf 22 = .ok (.getfield 25, 3) := by decide +kernel
theorem dX11_rentOf_25 : decode cX11_rentOf 25 = .ok (.iconst 4, 1) := by decide +kernel
theorem dX11_rentOf_26 : decode cX11_rentOf 26 = .ok (.iload_n 1, 1) := by decide +kernel
theorem dX11_rentOf_27 : decode cX11_rentOf 27 = .ok (.iadd, 1) := by decide +kernel
theorem dX11_rentOf_28 : decode cX11_rentOf 28 = .ok (.iaload, 1) := by decide +kernel
theorem dX11_rentOf_29 : decode cX11_rentOf 29 = .ok (.invokevirtual 238, 3) := by decide +kernel
theorem dX11_rentOf_32 : decode cX11_rentOf 32 = .ok (.aload_n 0, 1) := by decide +kernel
theorem dX11_rentOf_33 : decode cX11_rentOf 33 = .ok (.getfield 25, 3) := by decide +kernel
theorem dX11_rentOf_36 : decode cX11_rentOf 36 = .ok (.iconst 4, 1) := by decide +kernel
theorem dX11_rentOf_37 : decode cX11_rentOf 37 = .ok (.iload_n 1, 1) := by decide +kernel
theorem dX11_rentOf_38 : decode cX11_rentOf 38 = .ok (.iadd, 1) := by decide +kernel
theorem dX11_rentOf_39 : decode cX11_rentOf 39 = .ok (.iaload, 1) := by decide +kernel
theorem dX11_rentOf_40 : decode cX11_rentOf 40 = .ok (.aload_n 0, 1) := by decide +kernel
theorem dX11_rentOf_41 : decode cX11_rentOf 41 = .ok (.getfield 13, 3) := by decide +kernel
theorem dX11_rentOf_44 : decode cX11_rentOf 44 = .ok (.iconst 4, 1) := by decide +kernel
theorem dX11_rentOf_45 : decode cX11_rentOf 45 = .ok (.iload_n 2, 1) := by decide +kernel
theorem dX11_rentOf_46 : decode cX11_rentOf 46 = .ok (.imul, 1) := by decide +kernel
theorem dX11_rentOf_47 : decode cX11_rentOf 47 = .ok (.iconst 2, 1) := by decide +kernel
theorem dX11_rentOf_48 : decode cX11_rentOf 48 = .ok (.iadd, 1) := by decide +kernel
theorem dX11_rentOf_49 : decode cX11_rentOf 49 = .ok (.iaload, 1) := by decide +kernel
theorem dX11_rentOf_50 : decode cX11_rentOf 50 = .ok (.iadd, 1) := by decide +kernel
theorem dX11_rentOf_51 : decode cX11_rentOf 51 = .ok (.invokestatic 241, 3) := by decide +kernel
theorem dX11_rentOf_54 : decode cX11_rentOf 54 = .ok (.imul, 1) := by decide +kernel
theorem dX11_rentOf_55 : decode cX11_rentOf 55 = .ok (.ireturn, 1) := by decide +kernel
set_option maxRecDepth 20000 in
theorem ggX11_rent_X11_isCart : GoodIn wsX11_rent wsX11_isCart := goodIn_r _ [5, 6, 7, 8, 4, 9, 56, 57, 58, 59, 60, 61, 62, 63, 64, 65, 66, 67, 68, 69, 70, 71, 72, 73, 74, 75, 76, 77, 78, 79, 80, 81, 82, 83, 84, 85, 86, 87, 88, 89, 90, 91, 92, 93, 94] (by decide +kernel) (by decide +kernel)
set_option maxRecDepth 20000 in
theorem gX11_rent_X11_isCart : GoodIn wsX11_rent (wsV RX11 225 RX11 yX11_isCart wsX11_isCart) := goodIn_app (goodIn_of _ (by decide +kernel)) ggX11_rent_X11_isCart
set_option maxRecDepth 20000 in
theorem ggX11_rent_X11_isRoad : GoodIn wsX11_rent wsX11_isRoad := goodIn_r _ [13, 14, 7, 8, 4, 9, 56, 57, 58, 59, 60, 61, 62, 63, 64, 65, 66, 67, 68, 69, 70, 71, 72, 73, 74, 75, 76, 77, 78, 79, 80, 81, 82, 83, 84, 85, 86, 87, 88, 89, 90, 91, 92, 93, 94] (by decide +kernel) (by decide +kernel)
set_option maxRecDepth 20000 in
theorem gX11_rent_X11_isRoad : GoodIn wsX11_rent (wsV RX11 222 RX11 yX11_isRoad wsX11_isRoad) := goodIn_app (goodIn_of _ (by decide +kernel)) ggX11_rent_X11_isRoad
set_option maxRecDepth 20000 in
theorem ggX11_rent_X11_canGo : GoodIn wsX11_rent wsX11_canGo := goodIn_r _ [18, 19, 20, 21, 22, 23, 4, 24, 56, 57, 58, 59, 60, 61, 62, 63, 64, 65, 66, 67, 68, 69, 70, 71, 72, 73, 74, 75, 76, 77, 78, 79, 80, 81, 82, 83, 84, 85, 86, 87, 88, 89, 90, 91, 92, 93, 94] (by decide +kernel) (by decide +kernel)
set_option maxRecDepth 20000 in
theorem gX11_rent_X11_canGo : GoodIn wsX11_rent (wsV RX11 295 RX11 yX11_canGo wsX11_canGo) := goodIn_app (goodIn_of _ (by decide +kernel)) ggX11_rent_X11_canGo
set_option maxRecDepth 20000 in
theorem ggX11_rent_X11_rentOf : GoodIn wsX11_rent wsX11_rentOf := goodIn_r _ [28, 19, 20, 29, 30, 31, 4, 32, 33, 34, 35, 36, 37, 38, 39, 40, 41, 42, 43, 44, 45, 46, 47, 48, 49, 50, 51, 52, 7, 8, 9, 53, 54, 55, 56, 57, 58, 59, 60, 61, 62, 63, 64, 65, 66, 67, 68, 69, 70, 71, 72, 73, 74, 75, 76, 77, 78, 79, 80, 81, 82, 83, 84, 85, 86, 87, 88, 89, 90, 91, 92, 93, 94] (by decide +kernel) (by decide +kernel)
set_option maxRecDepth 20000 in
theorem gX11_rent_X11_rentOf : GoodIn wsX11_rent (wsV RX11 298 RX11 yX11_rentOf wsX11_rentOf) := goodIn_app (goodIn_of _ (by decide +kernel)) ggX11_rent_X11_rentOf
theorem dX11_rent_0 : decode cX11_rent 0 = .ok (.aload_n 0, 1) := by decide +kernel
theorem dX11_rent_1 : decode cX11_rent 1 = .ok (.iload_n 1, 1) := by decide +kernel
theorem dX11_rent_2 : decode cX11_rent 2 = .ok (.invokevirtual 225, 3) := by decide +kernel
theorem dX11_rent_5 : decode cX11_rent 5 = .ok (.ifCond .eq 24, 3) := by decide +kernel
theorem dX11_rent_8 : decode cX11_rent 8 = .ok (.aload_n 0, 1) := by decide +kernel
theorem dX11_rent_9 : decode cX11_rent 9 = .ok (.iload_n 2, 1) := by decide +kernel
theorem dX11_rent_10 : decode cX11_rent 10 = .ok (.invokevirtual 222, 3) := by decide +kernel
theorem dX11_rent_13 : decode cX11_rent 13 = .ok (.ifCond .eq 16, 3) := by decide +kernel
theorem dX11_rent_16 : decode cX11_rent 16 = .ok (.aload_n 0, 1) := by decide +kernel
theorem dX11_rent_17 : decode cX11_rent 17 = .ok (.iload_n 3, 1) := by decide +kernel
theorem dX11_rent_18 : decode cX11_rent 18 = .ok (.invokevirtual 222, 3) := by decide +kernel
theorem dX11_rent_21 : decode cX11_rent 21 = .ok (.ifCond .eq 8, 3) := by decide +kernel
theorem dX11_rent_24 : decode cX11_rent 24 = .ok (.iload_n 2, 1) := by decide +kernel
theorem dX11_rent_25 : decode cX11_rent 25 = .ok (.iload_n 3, 1) := by decide +kernel
theorem dX11_rent_26 : decode cX11_rent 26 = .ok (.if_icmp .ne 6, 3) := by decide +kernel
theorem dX11_rent_29 : decode cX11_rent 29 = .ok (.bipush (-2), 2) := by decide +kernel
theorem dX11_rent_31 : decode cX11_rent 31 = .ok (.ireturn, 1) := by decide +kernel
theorem dX11_rent_32 : decode cX11_rent 32 = .ok (.aload_n 0, 1) := by decide +kernel
theorem dX11_rent_33 : decode cX11_rent 33 = .ok (.iload_n 1, 1) := by decide +kernel
theorem dX11_rent_34 : decode cX11_rent 34 = .ok (.iload_n 2, 1) := by decide +kernel
theorem dX11_rent_35 : decode cX11_rent 35 = .ok (.invokevirtual 295, 3) := by decide +kernel
theorem dX11_rent_38 : decode cX11_rent 38 = .ok (.ifCond .eq 32, 3) := by decide +kernel
theorem dX11_rent_41 : decode cX11_rent 41 = .ok (.aload_n 0, 1) := by decide +kernel
theorem dX11_rent_42 : decode cX11_rent 42 = .ok (.iload_n 1, 1) := by decide +kernel
theorem dX11_rent_43 : decode cX11_rent 43 = .ok (.iload_n 3, 1) := by decide +kernel
theorem dX11_rent_44 : decode cX11_rent 44 = .ok (.invokevirtual 295, 3) := by decide +kernel
theorem dX11_rent_47 : decode cX11_rent 47 = .ok (.ifCond .eq 23, 3) := by decide +kernel
theorem dX11_rent_50 : decode cX11_rent 50 = .ok (.aload_n 0, 1) := by decide +kernel
theorem dX11_rent_51 : decode cX11_rent 51 = .ok (.iload_n 1, 1) := by decide +kernel
theorem dX11_rent_52 : decode cX11_rent 52 = .ok (.iload_n 2, 1) := by decide +kernel
theorem dX11_rent_53 : decode cX11_rent 53 = .ok (.invokevirtual 298, 3) := by decide +kernel
theorem dX11_rent_56 : decode cX11_rent 56 = .ok (.aload_n 0, 1) := by decide +kernel
theorem dX11_rent_57 : decode cX11_rent 57 = .ok (.iload_n 1, 1) := by decide +kernel
theorem dX11_rent_58 : decode cX11_rent 58 = .ok (.iload_n 3, 1) := by decide +kernel
theorem dX11_rent_59 : decode cX11_rent 59 = .ok (.invokevirtual 298, 3) := by decide +kernel
theorem dX11_rent_62 : decode cX11_rent 62 = .ok (.isub, 1) := by decide +kernel
theorem dX11_rent_63 : decode cX11_rent 63 = .ok (.sipush 9999, 3) := by decide +kernel
theorem dX11_rent_66 : decode cX11_rent 66 = .ok (.iadd, 1) := by decide +kernel
theorem dX11_rent_67 : decode cX11_rent 67 = .ok (.goto 5, 3) := by decide +kernel
theorem dX11_rent_70 : decode cX11_rent 70 = .ok (.bipush (-4), 2) := by decide +kernel
theorem dX11_rent_72 : decode cX11_rent 72 = .ok (.ireturn, 1) := by decide +kernel
set_option maxRecDepth 20000 in
theorem ggX11_layDist_X11_costOf : GoodIn wsX11_layDist wsX11_costOf := goodIn_r _ [9, 4, 10, 11, 12, 13, 14, 15, 16, 17, 18, 19, 20, 21, 22, 23, 24, 25, 26, 27, 28, 29, 30, 31, 32, 33, 34, 35, 36, 37, 38, 39, 40, 41, 42, 43, 44, 45, 46, 47, 48] (by decide +kernel) (by decide +kernel)
set_option maxRecDepth 20000 in
theorem gX11_layDist_X11_costOf : GoodIn wsX11_layDist (wsV RX11 302 RX11 yX11_costOf wsX11_costOf) := goodIn_app (goodIn_of _ (by decide +kernel)) ggX11_layDist_X11_costOf
theorem dX11_layDist_0 : decode cX11_layDist 0 = .ok (.iconst 0, 1) := by decide +kernel
theorem dX11_layDist_1 : decode cX11_layDist 1 = .ok (.istore_n 2, 1) := by decide +kernel
theorem dX11_layDist_2 : decode cX11_layDist 2 = .ok (.iload_n 2, 1) := by decide +kernel
theorem dX11_layDist_3 : decode cX11_layDist 3 = .ok (.bipush 7, 2) := by decide +kernel
theorem dX11_layDist_5 : decode cX11_layDist 5 = .ok (.if_icmp .ge 27, 3) := by decide +kernel
theorem dX11_layDist_8 : decode cX11_layDist 8 = .ok (.aload_n 0, 1) := by decide +kernel
theorem dX11_layDist_9 : decode cX11_layDist 9 = .ok (.getfield 63, 3) := by decide +kernel
theorem dX11_layDist_12 : decode cX11_layDist 12 = .ok (.iload_n 2, 1) := by decide +kernel
theorem dX11_layDist_13 : decode cX11_layDist 13 = .ok (.iload_n 2, 1) := by decide +kernel
theorem dX11_layDist_14 : decode cX11_layDist 14 = .ok (.iload_n 1, 1) := by decide +kernel
theorem dX11_layDist_15 : decode cX11_layDist 15 = .ok (.if_icmp .ne 7, 3) := by decide +kernel
theorem dX11_layDist_18 : decode cX11_layDist 18 = .ok (.iconst 0, 1) := by decide +kernel
theorem dX11_layDist_19 : decode cX11_layDist 19 = .ok (.goto 6, 3) := by decide +kernel
theorem dX11_layDist_22 : decode cX11_layDist 22 = .ok (.ldc_w 301, 3) := by decide +kernel
theorem dX11_layDist_25 : decode cX11_layDist 25 = .ok (.iastore, 1) := by decide +kernel
theorem dX11_layDist_26 : decode cX11_layDist 26 = .ok (.iinc 2 1, 3) := by decide +kernel
theorem dX11_layDist_29 : decode cX11_layDist 29 = .ok (.goto (-27), 3) := by decide +kernel
theorem dX11_layDist_32 : decode cX11_layDist 32 = .ok (.iconst 0, 1) := by decide +kernel
theorem dX11_layDist_33 : decode cX11_layDist 33 = .ok (.istore_n 2, 1) := by decide +kernel
theorem dX11_layDist_34 : decode cX11_layDist 34 = .ok (.iload_n 2, 1) := by decide +kernel
theorem dX11_layDist_35 : decode cX11_layDist 35 = .ok (.bipush 7, 2) := by decide +kernel
theorem dX11_layDist_37 : decode cX11_layDist 37 = .ok (.if_icmp .ge 148, 3) := by decide +kernel
theorem dX11_layDist_40 : decode cX11_layDist 40 = .ok (.iconst 0, 1) := by decide +kernel
theorem dX11_layDist_41 : decode cX11_layDist 41 = .ok (.istore_n 3, 1) := by decide +kernel
theorem dX11_layDist_42 : decode cX11_layDist 42 = .ok (.iload_n 3, 1) := by decide +kernel
theorem dX11_layDist_43 : decode cX11_layDist 43 = .ok (.aload_n 0, 1) := by decide +kernel
theorem dX11_layDist_44 : decode cX11_layDist 44 = .ok (.getfield 98, 3) := by decide +kernel
theorem dX11_layDist_47 : decode cX11_layDist 47 = .ok (.if_icmp .ge 132, 3) := by decide +kernel
theorem dX11_layDist_50 : decode cX11_layDist 50 = .ok (.aload_n 0, 1) := by decide +kernel
theorem dX11_layDist_51 : decode cX11_layDist 51 = .ok (.iload_n 3, 1) := by decide +kernel
theorem dX11_layDist_52 : decode cX11_layDist 52 = .ok (.invokevirtual 302, 3) := by decide +kernel
theorem dX11_layDist_55 : decode cX11_layDist 55 = .ok (.istore 4, 2) := by decide +kernel
theorem dX11_layDist_57 : decode cX11_layDist 57 = .ok (.aload_n 0, 1) := by decide +kernel
theorem dX11_layDist_58 : decode cX11_layDist 58 = .ok (.getfield 13, 3) := by decide +kernel
theorem dX11_layDist_61 : decode cX11_layDist 61 = .ok (.iconst 4, 1) := by decide +kernel
theorem dX11_layDist_62 : decode cX11_layDist 62 = .ok (.iload_n 3, 1) := by decide +kernel
theorem dX11_layDist_63 : decode cX11_layDist 63 = .ok (.imul, 1) := by decide +kernel
theorem dX11_layDist_64 : decode cX11_layDist 64 = .ok (.iaload, 1) := by decide +kernel
theorem dX11_layDist_65 : decode cX11_layDist 65 = .ok (.istore 5, 2) := by decide +kernel
theorem dX11_layDist_67 : decode cX11_layDist 67 = .ok (.aload_n 0, 1) := by decide +kernel
theorem dX11_layDist_68 : decode cX11_layDist 68 = .ok (.getfield 13, 3) := by decide +kernel
theorem dX11_layDist_71 : decode cX11_layDist 71 = .ok (.iconst 4, 1) := by decide +kernel
theorem dX11_layDist_72 : decode cX11_layDist 72 = .ok (.iload_n 3, 1) := by decide +kernel
theorem dX11_layDist_73 : decode cX11_layDist 73 = .ok (.imul, 1) := by decide +kernel
theorem dX11_layDist_74 : decode cX11_layDist 74 = .ok (.iconst 1, 1) := by decide +kernel
theorem dX11_layDist_75 : decode cX11_layDist 75 = .ok (.iadd, 1) := by decide +kernel
theorem dX11_layDist_76 : decode cX11_layDist 76 = .ok (.iaload, 1) := by decide +kernel
theorem dX11_layDist_77 : decode cX11_layDist 77 = .ok (.istore 6, 2) := by decide +kernel
theorem dX11_layDist_79 : decode cX11_layDist 79 = .ok (.aload_n 0, 1) := by decide +kernel
theorem dX11_layDist_80 : decode cX11_layDist 80 = .ok (.getfield 63, 3) := by decide +kernel
theorem dX11_layDist_83 : decode cX11_layDist 83 = .ok (.iload 5, 2) := by decide +kernel
theorem dX11_layDist_85 : decode cX11_layDist 85 = .ok (.aload_n 0, 1) := by decide +kernel
theorem dX11_layDist_86 : decode cX11_layDist 86 = .ok (.getfield 63, 3) := by decide +kernel
theorem dX11_layDist_89 : decode cX11_layDist 89 = .ok (.iload 6, 2) := by decide +kernel
theorem dX11_layDist_91 : decode cX11_layDist 91 = .ok (.iaload, 1) := by decide +kernel
theorem dX11_layDist_92 : decode cX11_layDist 92 = .ok (.iload 4, 2) := by decide +kernel
theorem dX11_layDist_94 : decode cX11_layDist 94 = .ok (.iadd, 1) := by decide +kernel
theorem dX11_layDist_95 : decode cX11_layDist 95 = .ok (.aload_n 0, 1) := by decide +kernel
theorem dX11_layDist_96 : decode cX11_layDist 96 = .ok (.getfield 63, 3) := by decide +kernel
theorem dX11_layDist_99 : decode cX11_layDist 99 = .ok (.iload 5, 2) := by decide +kernel
theorem dX11_layDist_101 : decode cX11_layDist 101 = .ok (.iaload, 1) := by decide +kernel
theorem dX11_layDist_102 : decode cX11_layDist 102 = .ok (.if_icmp .ge 16, 3) := by decide +kernel
theorem dX11_layDist_105 : decode cX11_layDist 105 = .ok (.aload_n 0, 1) := by decide +kernel
theorem dX11_layDist_106 : decode cX11_layDist 106 = .ok (.getfield 63, 3) := by decide +kernel
theorem dX11_layDist_109 : decode cX11_layDist 109 = .ok (.iload 6, 2) := by decide +kernel
theorem dX11_layDist_111 : decode cX11_layDist 111 = .ok (.iaload, 1) := by decide +kernel
theorem dX11_layDist_112 : decode cX11_layDist 112 = .ok (.iload 4, 2) := by decide +kernel
theorem dX11_layDist_114 : decode cX11_layDist 114 = .ok (.iadd, 1) := by decide +kernel
theorem dX11_layDist_115 : decode cX11_layDist 115 = .ok (.goto 10, 3) := by decide +kernel
theorem dX11_layDist_118 : decode cX11_layDist 118 = .ok (.aload_n 0, 1) := by decide +kernel
theorem dX11_layDist_119 : decode cX11_layDist 119 = .ok (.getfield 63, 3) := by decide +kernel
theorem dX11_layDist_122 : decode cX11_layDist 122 = .ok (.iload 5, 2) := by decide +kernel
theorem dX11_layDist_124 : decode cX11_layDist 124 = .ok (.iaload, 1) := by decide +kernel
theorem dX11_layDist_125 : decode cX11_layDist 125 = .ok (.iastore, 1) := by decide +kernel
theorem dX11_layDist_126 : decode cX11_layDist 126 = .ok (.aload_n 0, 1) := by decide +kernel
theorem dX11_layDist_127 : decode cX11_layDist 127 = .ok (.getfield 63, 3) := by decide +kernel
theorem dX11_layDist_130 : decode cX11_layDist 130 = .ok (.iload 6, 2) := by decide +kernel
theorem dX11_layDist_132 : decode cX11_layDist 132 = .ok (.aload_n 0, 1) := by decide +kernel
theorem dX11_layDist_133 : decode cX11_layDist 133 = .ok (.getfield 63, 3) := by decide +kernel
theorem dX11_layDist_136 : decode cX11_layDist 136 = .ok (.iload 5, 2) := by decide +kernel
theorem dX11_layDist_138 : decode cX11_layDist 138 = .ok (.iaload, 1) := by decide +kernel
theorem dX11_layDist_139 : decode cX11_layDist 139 = .ok (.iload 4, 2) := by decide +kernel
theorem dX11_layDist_141 : decode cX11_layDist 141 = .ok (.iadd, 1) := by decide +kernel
theorem dX11_layDist_142 : decode cX11_layDist 142 = .ok (.aload_n 0, 1) := by decide +kernel
theorem dX11_layDist_143 : decode cX11_layDist 143 = .ok (.getfield 63, 3) := by decide +kernel
theorem dX11_layDist_146 : decode cX11_layDist 146 = .ok (.iload 6, 2) := by decide +kernel
theorem dX11_layDist_148 : decode cX11_layDist 148 = .ok (.iaload, 1) := by decide +kernel
theorem dX11_layDist_149 : decode cX11_layDist 149 = .ok (.if_icmp .ge 16, 3) := by decide +kernel
theorem dX11_layDist_152 : decode cX11_layDist 152 = .ok (.aload_n 0, 1) := by decide +kernel
theorem dX11_layDist_153 : decode cX11_layDist 153 = .ok (.getfield 63, 3) := by decide +kernel
theorem dX11_layDist_156 : decode cX11_layDist 156 = .ok (.iload 5, 2) := by decide +kernel
theorem dX11_layDist_158 : decode cX11_layDist 158 = .ok (.iaload, 1) := by decide +kernel
theorem dX11_layDist_159 : decode cX11_layDist 159 = .ok (.iload 4, 2) := by decide +kernel
theorem dX11_layDist_161 : decode cX11_layDist 161 = .ok (.iadd, 1) := by decide +kernel
theorem dX11_layDist_162 : decode cX11_layDist 162 = .ok (.goto 10, 3) := by decide +kernel
theorem dX11_layDist_165 : decode cX11_layDist 165 = .ok (.aload_n 0, 1) := by decide +kernel
theorem dX11_layDist_166 : decode cX11_layDist 166 = .ok (.getfield 63, 3) := by decide +kernel
theorem dX11_layDist_169 : decode cX11_layDist 169 = .ok (.iload 6, 2) := by decide +kernel
theorem dX11_layDist_171 : decode cX11_layDist 171 = .ok (.iaload, 1) := by decide +kernel
theorem dX11_layDist_172 : decode cX11_layDist 172 = .ok (.iastore, 1) := by decide +kernel
theorem dX11_layDist_173 : decode cX11_layDist 173 = .ok (.iinc 3 1, 3) := by decide +kernel
theorem dX11_layDist_176 : decode cX11_layDist 176 = .ok (.goto (-134), 3) := by decide +kernel
theorem dX11_layDist_179 : decode cX11_layDist 179 = .ok (.iinc 2 1, 3) := by decide +kernel
theorem dX11_layDist_182 : decode cX11_layDist 182 = .ok (.goto (-148), 3) := by decide +kernel
theorem dX11_layDist_185 : decode cX11_layDist 185 = .ok (.return_, 1) := by decide +kernel
theorem dX11_costOf_0 : decode cX11_costOf 0 = .ok (.aload_n 0, 1) := by decide +kernel
theorem dX11_costOf_1 : decode cX11_costOf 1 = .ok (.getfield 13, 3) := by decide +kernel
theorem dX11_costOf_4 : decode cX11_costOf 4 = .ok (.iconst 4, 1) := by decide +kernel
theorem dX11_costOf_5 : decode cX11_costOf 5 = .ok (.iload_n 1, 1) := by decide +kernel
theorem dX11_costOf_6 : decode cX11_costOf 6 = .ok (.imul, 1) := by decide +kernel
theorem dX11_costOf_7 : decode cX11_costOf 7 = .ok (.iconst 3, 1) := by decide +kernel
theorem dX11_costOf_8 : decode cX11_costOf 8 = .ok (.iadd, 1) := by decide +kernel
theorem dX11_costOf_9 : decode cX11_costOf 9 = .ok (.iaload, 1) := by decide +kernel
theorem dX11_costOf_10 : decode cX11_costOf 10 = .ok (.iconst 2, 1) := by decide +kernel
theorem dX11_costOf_11 : decode cX11_costOf 11 = .ok (.if_icmp .ne 8, 3) := by decide +kernel
theorem dX11_costOf_14 : decode cX11_costOf 14 = .ok (.bipush 100, 2) := by decide +kernel
theorem dX11_costOf_16 : decode cX11_costOf 16 = .ok (.goto 4, 3) := by decide +kernel
theorem dX11_costOf_19 : decode cX11_costOf 19 = .ok (.iconst 0, 1) := by decide +kernel
theorem dX11_costOf_20 : decode cX11_costOf 20 = .ok (.aload_n 0, 1) := by decide +kernel
theorem dX11_costOf_21 : decode cX11_costOf 21 = .ok (.getfield 13, 3) := by decide +kernel
theorem dX11_costOf_24 : decode cX11_costOf 24 = .ok (.iconst 4, 1) := by decide +kernel
theorem dX11_costOf_25 : decode cX11_costOf 25 = .ok (.iload_n 1, 1) := by decide +kernel
theorem dX11_costOf_26 : decode cX11_costOf 26 = .ok (.imul, 1) := by decide +kernel
theorem dX11_costOf_27 : decode cX11_costOf 27 = .ok (.iconst 2, 1) := by decide +kernel
theorem dX11_costOf_28 : decode cX11_costOf 28 = .ok (.iadd, 1) := by decide +kernel
theorem dX11_costOf_29 : decode cX11_costOf 29 = .ok (.iaload, 1) := by decide +kernel
theorem dX11_costOf_30 : decode cX11_costOf 30 = .ok (.iadd, 1) := by decide +kernel
theorem dX11_costOf_31 : decode cX11_costOf 31 = .ok (.ireturn, 1) := by decide +kernel
set_option maxRecDepth 20000 in
theorem ggX11_around_X11_isPlace : GoodIn wsX11_around wsX11_isPlace := goodIn_r _ [8, 9, 10, 11, 7, 12, 26, 27, 28, 29, 30, 31, 32, 33, 34, 35, 36, 37, 38, 39, 40, 41, 42, 43, 44, 45, 46, 47, 48, 49, 50, 51, 52, 53, 54, 55, 56, 57, 58, 59, 60, 61, 62, 63, 64] (by decide +kernel) (by decide +kernel)
set_option maxRecDepth 20000 in
theorem gX11_around_X11_isPlace : GoodIn wsX11_around (wsV RX11 215 RX11 yX11_isPlace wsX11_isPlace) := goodIn_app (goodIn_of _ (by decide +kernel)) ggX11_around_X11_isPlace
set_option maxRecDepth 20000 in
theorem ggX11_around_X11_in : GoodIn wsX11_around wsX11_in := goodIn_r _ [12] (by decide +kernel) (by decide +kernel)
set_option maxRecDepth 20000 in
theorem gX11_around_X11_in : GoodIn wsX11_around (va_wsS RX11 94 yX11_in wsX11_in) := goodIn_app (goodIn_of _ (by decide +kernel)) ggX11_around_X11_in
set_option maxRecDepth 20000 in
theorem ggX11_around_X11_layDist : GoodIn wsX11_around wsX11_layDist := goodIn_r _ [16, 1, 2, 3, 17, 18, 19, 20, 7, 21, 26, 27, 28, 29, 30, 31, 32, 33, 34, 35, 36, 37, 38, 39, 40, 41, 42, 43, 44, 45, 46, 47, 48, 49, 50, 51, 52, 53, 54, 55, 56, 57, 58, 59, 60, 61, 62, 63, 64] (by decide +kernel) (by decide +kernel)
set_option maxRecDepth 20000 in
theorem gX11_around_X11_layDist : GoodIn wsX11_around (wsV RX11 305 RX11 yX11_layDist wsX11_layDist) := goodIn_app (goodIn_of _ (by decide +kernel)) ggX11_around_X11_layDist
set_option maxRecDepth 20000 in
theorem ggX11_around_X11_endOf : GoodIn wsX11_around wsX11_endOf := goodIn_r _ [25, 17, 26, 27, 28, 29, 30, 31, 32, 33, 34, 35, 36, 37, 38, 39, 40, 41, 42, 43, 44, 45, 46, 47, 48, 49, 50, 51, 52, 53, 54, 55, 56, 57, 58, 59, 60, 61, 62, 63, 64] (by decide +kernel) (by decide +kernel)
set_option maxRecDepth 20000 in
theorem gX11_around_X11_endOf : GoodIn wsX11_around (wsV RX11 218 RX11 yX11_endOf wsX11_endOf) := goodIn_app (goodIn_of _ (by decide +kernel)) ggX11_around_X11_endOf
set_option maxRecDepth 20000 in
theorem ggX11_around_X11_costOf : GoodIn wsX11_around wsX11_costOf := goodIn_r _ [21, 17, 26, 27, 28, 29, 30, 31, 32, 33, 34, 35, 36, 37, 38, 39, 40, 41, 42, 43, 44, 45, 46, 47, 48, 49, 50, 51, 52, 53, 54, 55, 56, 57, 58, 59, 60, 61, 62, 63, 64] (by decide +kernel) (by decide +kernel)
set_option maxRecDepth 20000 in
theorem gX11_around_X11_costOf : GoodIn wsX11_around (wsV RX11 302 RX11 yX11_costOf wsX11_costOf) := goodIn_app (goodIn_of _ (by decide +kernel)) ggX11_around_X11_costOf
theorem dX11_around_0 : decode cX11_around 0 = .ok (.aload_n 0, 1) := by decide +kernel
theorem dX11_around_1 : decode cX11_around 1 = .ok (.iload_n 1, 1) := by decide +kernel
theorem dX11_around_2 : decode cX11_around 2 = .ok (.invokevirtual 215, 3) := by decide +kernel
theorem dX11_around_5 : decode cX11_around 5 = .ok (.ifCond .eq 11, 3) := by decide +kernel
theorem dX11_around_8 : decode cX11_around 8 = .ok (.aload_n 0, 1) := by decide +kernel
theorem dX11_around_9 : decode cX11_around 9 = .ok (.iload_n 2, 1) := by decide +kernel
theorem dX11_around_10 : decode cX11_around 10 = .ok (.invokevirtual 215, 3) := by decide +kernel
theorem dX11_around_13 : decode cX11_around 13 = .ok (.ifCond .ne 6, 3) := by decide +kernel
theorem dX11_around_16 : decode cX11_around 16 = .ok (.bipush (-2), 2) := by decide +kernel
theorem dX11_around_18 : decode cX11_around 18 = .ok (.ireturn, 1) := by decide +kernel
theorem dX11_around_19 : decode cX11_around 19 = .ok (.iload_n 3, 1) := by decide +kernel
theorem dX11_around_20 : decode cX11_around 20 = .ok (.iconst 0, 1) := by decide +kernel
theorem dX11_around_21 : decode cX11_around 21 = .ok (.iconst 2, 1) := by decide +kernel
theorem dX11_around_22 : decode cX11_around 22 = .ok (.invokestatic 94, 3) := by decide +kernel
theorem dX11_around_25 : decode cX11_around 25 = .ok (.ifCond .ne 6, 3) := by decide +kernel
theorem dX11_around_28 : decode cX11_around 28 = .ok (.bipush (-3), 2) := by decide +kernel
theorem dX11_around_30 : decode cX11_around 30 = .ok (.ireturn, 1) := by decide +kernel
theorem dX11_around_31 : decode cX11_around 31 = .ok (.aload_n 0, 1) := by decide +kernel
theorem dX11_around_32 : decode cX11_around 32 = .ok (.iload_n 2, 1) := by decide +kernel
theorem dX11_around_33 : decode cX11_around 33 = .ok (.invokevirtual 305, 3) := by decide +kernel
theorem dX11_around_36 : decode cX11_around 36 = .ok (.aload_n 0, 1) := by decide +kernel
theorem dX11_around_37 : decode cX11_around 37 = .ok (.getfield 63, 3) := by decide +kernel
theorem dX11_around_40 : decode cX11_around 40 = .ok (.iload_n 1, 1) := by decide +kernel
theorem dX11_around_41 : decode cX11_around 41 = .ok (.iaload, 1) := by decide +kernel
theorem dX11_around_42 : decode cX11_around 42 = .ok (.ldc_w 301, 3) := by decide +kernel
theorem dX11_around_45 : decode cX11_around 45 = .ok (.if_icmp .lt 5, 3) := by decide +kernel
theorem dX11_around_48 : decode cX11_around 48 = .ok (.iconst (-1), 1) := by decide +kernel
theorem dX11_around_49 : decode cX11_around 49 = .ok (.ireturn, 1) := by decide +kernel
theorem dX11_around_50 : decode cX11_around 50 = .ok (.iload_n 3, 1) := by decide +kernel
theorem dX11_around_51 : decode cX11_around 51 = .ok (.iconst 2, 1) := by decide +kernel
theorem dX11_around_52 : decode cX11_around 52 = .ok (.if_icmp .ge 29, 3) := by decide +kernel
theorem dX11_around_55 : decode cX11_around 55 = .ok (.iload_n 3, 1) := by decide +kernel
theorem dX11_around_56 : decode cX11_around 56 = .ok (.ifCond .ne 15, 3) := by decide +kernel
theorem dX11_around_59 : decode cX11_around 59 = .ok (.aload_n 0, 1) := by decide +kernel
theorem dX11_around_60 : decode cX11_around 60 = .ok (.getfield 63, 3) := by decide +kernel
theorem dX11_around_63 : decode cX11_around 63 = .ok (.iload_n 1, 1) := by decide +kernel
theorem dX11_around_64 : decode cX11_around 64 = .ok (.iaload, 1) := by decide +kernel
theorem dX11_around_65 : decode cX11_around 65 = .ok (.bipush 100, 2) := by decide +kernel
theorem dX11_around_67 : decode cX11_around 67 = .ok (.idiv, 1) := by decide +kernel
theorem dX11_around_68 : decode cX11_around 68 = .ok (.goto 12, 3) := by decide +kernel
theorem dX11_around_71 : decode cX11_around 71 = .ok (.aload_n 0, 1) := by decide +kernel
theorem dX11_around_72 : decode cX11_around 72 = .ok (.getfield 63, 3) := by decide +kernel
theorem dX11_around_75 : decode cX11_around 75 = .ok (.iload_n 1, 1) := by decide +kernel
theorem dX11_around_76 : decode cX11_around 76 = .ok (.iaload, 1) := by decide +kernel
theorem dX11_around_77 : decode cX11_around 77 = .ok (.bipush 100, 2) := by decide +kernel
theorem dX11_around_79 : decode cX11_around 79 = .ok (.irem, 1) := by decide +kernel
theorem dX11_around_80 : decode cX11_around 80 = .ok (.ireturn, 1) := by decide +kernel
theorem dX11_around_81 : decode cX11_around 81 = .ok (.iconst 0, 1) := by decide +kernel
theorem dX11_around_82 : decode cX11_around 82 = .ok (.istore 4, 2) := by decide +kernel
theorem dX11_around_84 : decode cX11_around 84 = .ok (.iload 4, 2) := by decide +kernel
theorem dX11_around_86 : decode cX11_around 86 = .ok (.aload_n 0, 1) := by decide +kernel
theorem dX11_around_87 : decode cX11_around 87 = .ok (.getfield 98, 3) := by decide +kernel
theorem dX11_around_90 : decode cX11_around 90 = .ok (.if_icmp .ge 55, 3) := by decide +kernel
theorem dX11_around_93 : decode cX11_around 93 = .ok (.aload_n 0, 1) := by decide +kernel
theorem dX11_around_94 : decode cX11_around 94 = .ok (.iload 4, 2) := by decide +kernel
theorem dX11_around_96 : decode cX11_around 96 = .ok (.iload_n 1, 1) := by decide +kernel
theorem dX11_around_97 : decode cX11_around 97 = .ok (.invokevirtual 218, 3) := by decide +kernel
theorem dX11_around_100 : decode cX11_around 100 = .ok (.istore 5, 2) := by decide +kernel
theorem dX11_around_102 : decode cX11_around 102 = .ok (.iload_n 1, 1) := by decide +kernel
theorem dX11_around_103 : decode cX11_around 103 = .ok (.iload_n 2, 1) := by decide +kernel
theorem dX11_around_104 : decode cX11_around 104 = .ok (.if_icmp .eq 35, 3) := by decide +kernel
theorem dX11_around_107 : decode cX11_around 107 = .ok (.iload 5, 2) := by decide +kernel
theorem dX11_around_109 : decode cX11_around 109 = .ok (.iconst (-1), 1) := by decide +kernel
theorem dX11_around_110 : decode cX11_around 110 = .ok (.if_icmp .eq 29, 3) := by decide +kernel
theorem dX11_around_113 : decode cX11_around 113 = .ok (.aload_n 0, 1) := by decide +kernel
theorem dX11_around_114 : decode cX11_around 114 = .ok (.getfield 63, 3) := by decide +kernel
theorem dX11_around_117 : decode cX11_around 117 = .ok (.iload 5, 2) := by decide +kernel
theorem dX11_around_119 : decode cX11_around 119 = .ok (.iaload, 1) := by decide +kernel
theorem dX11_around_120 : decode cX11_around 120 = .ok (.aload_n 0, 1) := by decide +kernel
theorem dX11_around_121 : decode cX11_around 121 = .ok (.iload 4, 2) := by decide +kernel
theorem dX11_around_123 : decode cX11_around 123 = .ok (.invokevirtual 302, 3) := by decide +kernel
theorem dX11_around_126 : decode cX11_around 126 = .ok (.iadd, 1) := by decide +kernel
theorem dX11_around_127 : decode cX11_around 127 = .ok (.aload_n 0, 1) := by decide +kernel
theorem dX11_around_128 : decode cX11_around 128 = .ok (.getfield 63, 3) := by decide +kernel
theorem dX11_around_131 : decode cX11_around 131 = .ok (.iload_n 1, 1) := by decide +kernel
theorem dX11_around_132 : decode cX11_around 132 = .ok (.iaload, 1) := by decide +kernel
theorem dX11_around_133 : decode cX11_around 133 = .ok (.if_icmp .ne 6, 3) := by decide +kernel
theorem dX11_around_136 : decode cX11_around 136 = .ok (.iload 4, 2) := by decide +kernel
theorem dX11_around_138 : decode cX11_around 138 = .ok (.ireturn, 1) := by decide +kernel
theorem dX11_around_139 : decode cX11_around 139 = .ok (.iinc 4 1, 3) := by decide +kernel
theorem dX11_around_142 : decode cX11_around 142 = .ok (.goto (-58), 3) := by decide +kernel
theorem dX11_around_145 : decode cX11_around 145 = .ok (.iconst (-1), 1) := by decide +kernel
theorem dX11_around_146 : decode cX11_around 146 = .ok (.ireturn, 1) := by decide +kernel
set_option maxRecDepth 20000 in
theorem ggX11_put_X11_in : GoodIn wsX11_put wsX11_in := goodIn_r _ [6] (by decide +kernel) (by decide +kernel)
set_option maxRecDepth 20000 in
theorem gX11_put_X11_in : GoodIn wsX11_put (va_wsS RX11 94 yX11_in wsX11_in) := goodIn_app (goodIn_of _ (by decide +kernel)) ggX11_put_X11_in
theorem dX11_put_0 : decode cX11_put 0 = .ok (.iload_n 1, 1) := by decide +kernel
theorem dX11_put_1 : decode cX11_put 1 = .ok (.iconst 1, 1) := by decide +kernel
theorem dX11_put_2 : decode cX11_put 2 = .ok (.bipush 99, 2) := by decide +kernel
theorem dX11_put_4 : decode cX11_put 4 = .ok (.invokestatic 94, 3) := by decide +kernel
theorem dX11_put_7 : decode cX11_put 7 = .ok (.ifCond .ne 6, 3) := by decide +kernel
theorem dX11_put_10 : decode cX11_put 10 = .ok (.bipush (-3), 2) := by decide +kernel
theorem dX11_put_12 : decode cX11_put 12 = .ok (.ireturn, 1) := by decide +kernel
theorem dX11_put_13 : decode cX11_put 13 = .ok (.aload_n 0, 1) := by decide +kernel
theorem dX11_put_14 : decode cX11_put 14 = .ok (.getfield 88, 3) := by decide +kernel
theorem dX11_put_17 : decode cX11_put 17 = .ok (.iconst 5, 1) := by decide +kernel
theorem dX11_put_18 : decode cX11_put 18 = .ok (.if_icmp .ne 6, 3) := by decide +kernel
theorem dX11_put_21 : decode cX11_put 21 = .ok (.bipush (-5), 2) := by decide +kernel
theorem dX11_put_23 : decode cX11_put 23 = .ok (.ireturn, 1) := by decide +kernel
theorem dX11_put_24 : decode cX11_put 24 = .ok (.aload_n 0, 1) := by decide +kernel
theorem dX11_put_25 : decode cX11_put 25 = .ok (.getfield 41, 3) := by decide +kernel
theorem dX11_put_28 : decode cX11_put 28 = .ok (.aload_n 0, 1) := by decide +kernel
theorem dX11_put_29 : decode cX11_put 29 = .ok (.getfield 88, 3) := by decide +kernel
theorem dX11_put_32 : decode cX11_put 32 = .ok (.iload_n 1, 1) := by decide +kernel
theorem dX11_put_33 : decode cX11_put 33 = .ok (.iastore, 1) := by decide +kernel
theorem dX11_put_34 : decode cX11_put 34 = .ok (.aload_n 0, 1) := by decide +kernel
theorem dX11_put_35 : decode cX11_put 35 = .ok (.dup, 1) := by decide +kernel
theorem dX11_put_36 : decode cX11_put 36 = .ok (.getfield 88, 3) := by decide +kernel
theorem dX11_put_39 : decode cX11_put 39 = .ok (.iconst 1, 1) := by decide +kernel
theorem dX11_put_40 : decode cX11_put 40 = .ok (.iadd, 1) := by decide +kernel
theorem dX11_put_41 : decode cX11_put 41 = .ok (.putfield 88, 3) := by decide +kernel
theorem dX11_put_44 : decode cX11_put 44 = .ok (.aload_n 0, 1) := by decide +kernel
theorem dX11_put_45 : decode cX11_put 45 = .ok (.getfield 88, 3) := by decide +kernel
theorem dX11_put_48 : decode cX11_put 48 = .ok (.ireturn, 1) := by decide +kernel
theorem dX11_wipe_0 : decode cX11_wipe 0 = .ok (.aload_n 0, 1) := by decide +kernel
theorem dX11_wipe_1 : decode cX11_wipe 1 = .ok (.getfield 88, 3) := by decide +kernel
theorem dX11_wipe_4 : decode cX11_wipe 4 = .ok (.istore_n 1, 1) := by decide +kernel
theorem dX11_wipe_5 : decode cX11_wipe 5 = .ok (.aload_n 0, 1) := by decide +kernel
theorem dX11_wipe_6 : decode cX11_wipe 6 = .ok (.iconst 0, 1) := by decide +kernel
theorem dX11_wipe_7 : decode cX11_wipe 7 = .ok (.putfield 88, 3) := by decide +kernel
theorem dX11_wipe_10 : decode cX11_wipe 10 = .ok (.iload_n 1, 1) := by decide +kernel
theorem dX11_wipe_11 : decode cX11_wipe 11 = .ok (.ireturn, 1) := by decide +kernel
set_option maxRecDepth 20000 in
theorem ggX11_throughOf_X11_isWarm : GoodIn wsX11_throughOf wsX11_isWarm := goodIn_r _ [5, 6, 16, 17, 18, 19, 20, 21, 22, 23, 24, 25, 26, 27, 28, 29, 30, 31, 32, 33, 34, 35, 36, 37, 38, 39, 40, 41, 42, 43, 44, 45, 46, 47, 48, 49, 50, 51, 52, 53, 54] (by decide +kernel) (by decide +kernel)
set_option maxRecDepth 20000 in
theorem gX11_throughOf_X11_isWarm : GoodIn wsX11_throughOf (wsV RX11 208 RX11 yX11_isWarm wsX11_isWarm) := goodIn_app (goodIn_of _ (by decide +kernel)) ggX11_throughOf_X11_isWarm
set_option maxRecDepth 20000 in
theorem ggX11_throughOf_X11_loses : GoodIn wsX11_throughOf wsX11_loses := goodIn_r _ [9, 10, 11, 4, 12, 13, 14, 15] (by decide +kernel) (by decide +kernel)
set_option maxRecDepth 20000 in
theorem gX11_throughOf_X11_loses : GoodIn wsX11_throughOf (va_wsS RX11 211 yX11_loses wsX11_loses) := goodIn_app (goodIn_of _ (by decide +kernel)) ggX11_throughOf_X11_loses
theorem dX11_throughOf_0 : decode cX11_throughOf 0 = .ok (.iload_n 1, 1) := by decide +kernel
theorem dX11_throughOf_1 : decode cX11_throughOf 1 = .ok (.istore 4, 2) := by decide +kernel
theorem dX11_throughOf_3 : decode cX11_throughOf 3 = .ok (.iload_n 2, 1) := by decide +kernel
theorem dX11_throughOf_4 : decode cX11_throughOf 4 = .ok (.istore 5, 2) := by decide +kernel
theorem dX11_throughOf_6 : decode cX11_throughOf 6 = .ok (.iload 5, 2) := by decide +kernel
theorem dX11_throughOf_8 : decode cX11_throughOf 8 = .ok (.iload_n 2, 1) := by decide +kernel
theorem dX11_throughOf_9 : decode cX11_throughOf 9 = .ok (.iload_n 3, 1) := by decide +kernel
theorem dX11_throughOf_10 : decode cX11_throughOf 10 = .ok (.iadd, 1) := by decide +kernel
theorem dX11_throughOf_11 : decode cX11_throughOf 11 = .ok (.if_icmp .ge 30, 3) := by decide +kernel
theorem dX11_throughOf_14 : decode cX11_throughOf 14 = .ok (.iload 4, 2) := by decide +kernel
theorem dX11_throughOf_16 : decode cX11_throughOf 16 = .ok (.iload 4, 2) := by decide +kernel
theorem dX11_throughOf_18 : decode cX11_throughOf 18 = .ok (.iconst 0, 1) := by decide +kernel
theorem dX11_throughOf_19 : decode cX11_throughOf 19 = .ok (.iconst 0, 1) := by decide +kernel
theorem dX11_throughOf_20 : decode cX11_throughOf 20 = .ok (.iload 5, 2) := by decide +kernel
theorem dX11_throughOf_22 : decode cX11_throughOf 22 = .ok (.aload_n 0, 1) := by decide +kernel
theorem dX11_throughOf_23 : decode cX11_throughOf 23 = .ok (.iload 5, 2) := by decide +kernel
theorem dX11_throughOf_25 : decode cX11_throughOf 25 = .ok (.invokevirtual 208, 3) := by decide +kernel
theorem dX11_throughOf_28 : decode cX11_throughOf 28 = .ok (.iconst 0, 1) := by decide +kernel
theorem dX11_throughOf_29 : decode cX11_throughOf 29 = .ok (.invokestatic 211, 3) := by decide +kernel
theorem dX11_throughOf_32 : decode cX11_throughOf 32 = .ok (.isub, 1) := by decide +kernel
theorem dX11_throughOf_33 : decode cX11_throughOf 33 = .ok (.istore 4, 2) := by decide +kernel
theorem dX11_throughOf_35 : decode cX11_throughOf 35 = .ok (.iinc 5 1, 3) := by decide +kernel
theorem dX11_throughOf_38 : decode cX11_throughOf 38 = .ok (.goto (-32), 3) := by decide +kernel
theorem dX11_throughOf_41 : decode cX11_throughOf 41 = .ok (.iload 4, 2) := by decide +kernel
theorem dX11_throughOf_43 : decode cX11_throughOf 43 = .ok (.ireturn, 1) := by decide +kernel
set_option maxRecDepth 20000 in
theorem ggX11_pass_X11_in : GoodIn wsX11_pass wsX11_in := goodIn_r _ [8] (by decide +kernel) (by decide +kernel)
set_option maxRecDepth 20000 in
theorem gX11_pass_X11_in : GoodIn wsX11_pass (va_wsS RX11 94 yX11_in wsX11_in) := goodIn_app (goodIn_of _ (by decide +kernel)) ggX11_pass_X11_in
set_option maxRecDepth 20000 in
theorem ggX11_pass_X11_throughOf : GoodIn wsX11_pass wsX11_throughOf := goodIn_r _ [12, 13, 14, 15, 7, 16, 17, 18, 19, 20, 21, 22, 23, 5, 6, 8, 24, 25, 26, 27, 28, 29, 30, 31, 32, 33, 34, 35, 36, 37, 38, 39, 40, 41, 42, 43, 44, 45, 46, 47, 48, 49, 50, 51, 52, 53, 54, 55, 56, 57, 58, 59, 60, 61, 62] (by decide +kernel) (by decide +kernel)
set_option maxRecDepth 20000 in
theorem gX11_pass_X11_throughOf : GoodIn wsX11_pass (wsV RX11 308 RX11 yX11_throughOf wsX11_throughOf) := goodIn_app (goodIn_of _ (by decide +kernel)) ggX11_pass_X11_throughOf
theorem dX11_pass_0 : decode cX11_pass 0 = .ok (.iload_n 1, 1) := by decide +kernel
theorem dX11_pass_1 : decode cX11_pass 1 = .ok (.iconst 0, 1) := by decide +kernel
theorem dX11_pass_2 : decode cX11_pass 2 = .ok (.bipush 43, 2) := by decide +kernel
theorem dX11_pass_4 : decode cX11_pass 4 = .ok (.invokestatic 94, 3) := by decide +kernel
theorem dX11_pass_7 : decode cX11_pass 7 = .ok (.ifCond .eq 8, 3) := by decide +kernel
theorem dX11_pass_10 : decode cX11_pass 10 = .ok (.iload_n 2, 1) := by decide +kernel
theorem dX11_pass_11 : decode cX11_pass 11 = .ok (.iconst (-1), 1) := by decide +kernel
theorem dX11_pass_12 : decode cX11_pass 12 = .ok (.if_icmp .ge 6, 3) := by decide +kernel
theorem dX11_pass_15 : decode cX11_pass 15 = .ok (.bipush (-3), 2) := by decide +kernel
theorem dX11_pass_17 : decode cX11_pass 17 = .ok (.ireturn, 1) := by decide +kernel
theorem dX11_pass_18 : decode cX11_pass 18 = .ok (.iconst 1, 1) := by decide +kernel
theorem dX11_pass_19 : decode cX11_pass 19 = .ok (.istore_n 3, 1) := by decide +kernel
theorem dX11_pass_20 : decode cX11_pass 20 = .ok (.iconst 0, 1) := by decide +kernel
theorem dX11_pass_21 : decode cX11_pass 21 = .ok (.istore 4, 2) := by decide +kernel
theorem dX11_pass_23 : decode cX11_pass 23 = .ok (.iload 4, 2) := by decide +kernel
theorem dX11_pass_25 : decode cX11_pass 25 = .ok (.aload_n 0, 1) := by decide +kernel
theorem dX11_pass_26 : decode cX11_pass 26 = .ok (.getfield 88, 3) := by decide +kernel
theorem dX11_pass_29 : decode cX11_pass 29 = .ok (.if_icmp .ge 16, 3) := by decide +kernel
theorem dX11_pass_32 : decode cX11_pass 32 = .ok (.iload_n 3, 1) := by decide +kernel
theorem dX11_pass_33 : decode cX11_pass 33 = .ok (.aload_n 0, 1) := by decide +kernel
theorem dX11_pass_34 : decode cX11_pass 34 = .ok (.getfield 88, 3) := by decide +kernel
theorem dX11_pass_37 : decode cX11_pass 37 = .ok (.imul, 1) := by decide +kernel
theorem dX11_pass_38 : decode cX11_pass 38 = .ok (.istore_n 3, 1) := by decide +kernel
theorem dX11_pass_39 : decode cX11_pass 39 = .ok (.iinc 4 1, 3) := by decide +kernel
theorem dX11_pass_42 : decode cX11_pass 42 = .ok (.goto (-19), 3) := by decide +kernel
theorem dX11_pass_45 : decode cX11_pass 45 = .ok (.iconst (-1), 1) := by decide +kernel
theorem dX11_pass_46 : decode cX11_pass 46 = .ok (.istore 4, 2) := by decide +kernel
theorem dX11_pass_48 : decode cX11_pass 48 = .ok (.iconst 0, 1) := by decide +kernel
theorem dX11_pass_49 : decode cX11_pass 49 = .ok (.istore 5, 2) := by decide +kernel
theorem dX11_pass_51 : decode cX11_pass 51 = .ok (.iload 5, 2) := by decide +kernel
theorem dX11_pass_53 : decode cX11_pass 53 = .ok (.iload_n 3, 1) := by decide +kernel
theorem dX11_pass_54 : decode cX11_pass 54 = .ok (.if_icmp .ge 176, 3) := by decide +kernel
theorem dX11_pass_57 : decode cX11_pass 57 = .ok (.iload 5, 2) := by decide +kernel
theorem dX11_pass_59 : decode cX11_pass 59 = .ok (.istore 6, 2) := by decide +kernel
theorem dX11_pass_61 : decode cX11_pass 61 = .ok (.iconst 0, 1) := by decide +kernel
theorem dX11_pass_62 : decode cX11_pass 62 = .ok (.istore 7, 2) := by decide +kernel
theorem dX11_pass_64 : decode cX11_pass 64 = .ok (.iconst 0, 1) := by decide +kernel
theorem dX11_pass_65 : decode cX11_pass 65 = .ok (.istore 8, 2) := by decide +kernel
theorem dX11_pass_67 : decode cX11_pass 67 = .ok (.aload_n 0, 1) := by decide +kernel
theorem dX11_pass_68 : decode cX11_pass 68 = .ok (.getfield 88, 3) := by decide +kernel
theorem dX11_pass_71 : decode cX11_pass 71 = .ok (.iconst 1, 1) := by decide +kernel
theorem dX11_pass_72 : decode cX11_pass 72 = .ok (.isub, 1) := by decide +kernel
theorem dX11_pass_73 : decode cX11_pass 73 = .ok (.istore 9, 2) := by decide +kernel
theorem dX11_pass_75 : decode cX11_pass 75 = .ok (.iload 9, 2) := by decide +kernel
theorem dX11_pass_77 : decode cX11_pass 77 = .ok (.ifCond .lt 46, 3) := by decide +kernel
theorem dX11_pass_80 : decode cX11_pass 80 = .ok (.aload_n 0, 1) := by decide +kernel
theorem dX11_pass_81 : decode cX11_pass 81 = .ok (.getfield 69, 3) := by decide +kernel
theorem dX11_pass_84 : decode cX11_pass 84 = .ok (.iload 9, 2) := by decide +kernel
theorem dX11_pass_86 : decode cX11_pass 86 = .ok (.iload 6, 2) := by decide +kernel
theorem dX11_pass_88 : decode cX11_pass 88 = .ok (.aload_n 0, 1) := by decide +kernel
theorem dX11_pass_89 : decode cX11_pass 89 = .ok (.getfield 88, 3) := by decide +kernel
theorem dX11_pass_92 : decode cX11_pass 92 = .ok (.irem, 1) := by decide +kernel
theorem dX11_pass_93 : decode cX11_pass 93 = .ok (.iastore, 1) := by decide +kernel
theorem dX11_pass_94 : decode cX11_pass 94 = .ok (.iload 6, 2) := by decide +kernel
theorem dX11_pass_96 : decode cX11_pass 96 = .ok (.aload_n 0, 1) := by decide +kernel
theorem dX11_pass_97 : decode cX11_pass 97 = .ok (.getfield 88, 3) := by decide +kernel
theorem dX11_pass_100 : decode cX11_pass 100 = .ok (.idiv, 1) := by decide +kernel
theorem dX11_pass_101 : decode cX11_pass 101 = .ok (.istore 6, 2) := by decide +kernel
theorem dX11_pass_103 : decode cX11_pass 103 = .ok (.iload 7, 2) := by decide +kernel
theorem dX11_pass_105 : decode cX11_pass 105 = .ok (.iconst 1, 1) := by decide +kernel
theorem dX11_pass_106 : decode cX11_pass 106 = .ok (.aload_n 0, 1) := by decide +kernel
theorem dX11_pass_107 : decode cX11_pass 107 = .ok (.getfield 69, 3) := by decide +kernel
theorem dX11_pass_110 : decode cX11_pass 110 = .ok (.iload 9, 2) := by decide +kernel
theorem dX11_pass_112 : decode cX11_pass 112 = .ok (.iaload, 1) := by decide +kernel
theorem dX11_pass_113 : decode cX11_pass 113 = .ok (.ishl, 1) := by decide +kernel
theorem dX11_pass_114 : decode cX11_pass 114 = .ok (.ior, 1) := by decide +kernel
theorem dX11_pass_115 : decode cX11_pass 115 = .ok (.istore 7, 2) := by decide +kernel
theorem dX11_pass_117 : decode cX11_pass 117 = .ok (.iinc 9 (-1), 3) := by decide +kernel
theorem dX11_pass_120 : decode cX11_pass 120 = .ok (.goto (-45), 3) := by decide +kernel
theorem dX11_pass_123 : decode cX11_pass 123 = .ok (.iload 7, 2) := by decide +kernel
theorem dX11_pass_125 : decode cX11_pass 125 = .ok (.iconst 1, 1) := by decide +kernel
theorem dX11_pass_126 : decode cX11_pass 126 = .ok (.aload_n 0, 1) := by decide +kernel
theorem dX11_pass_127 : decode cX11_pass 127 = .ok (.getfield 88, 3) := by decide +kernel
theorem dX11_pass_130 : decode cX11_pass 130 = .ok (.ishl, 1) := by decide +kernel
theorem dX11_pass_131 : decode cX11_pass 131 = .ok (.iconst 1, 1) := by decide +kernel
theorem dX11_pass_132 : decode cX11_pass 132 = .ok (.isub, 1) := by decide +kernel
theorem dX11_pass_133 : decode cX11_pass 133 = .ok (.if_icmp .eq 6, 3) := by decide +kernel
theorem dX11_pass_136 : decode cX11_pass 136 = .ok (.goto 88, 3) := by decide +kernel
theorem dX11_pass_139 : decode cX11_pass 139 = .ok (.iconst 0, 1) := by decide +kernel
theorem dX11_pass_140 : decode cX11_pass 140 = .ok (.istore 9, 2) := by decide +kernel
theorem dX11_pass_142 : decode cX11_pass 142 = .ok (.iload 9, 2) := by decide +kernel
theorem dX11_pass_144 : decode cX11_pass 144 = .ok (.aload_n 0, 1) := by decide +kernel
theorem dX11_pass_145 : decode cX11_pass 145 = .ok (.getfield 88, 3) := by decide +kernel
theorem dX11_pass_148 : decode cX11_pass 148 = .ok (.if_icmp .ge 33, 3) := by decide +kernel
theorem dX11_pass_151 : decode cX11_pass 151 = .ok (.iload 8, 2) := by decide +kernel
theorem dX11_pass_153 : decode cX11_pass 153 = .ok (.aload_n 0, 1) := by decide +kernel
theorem dX11_pass_154 : decode cX11_pass 154 = .ok (.aload_n 0, 1) := by decide +kernel
theorem dX11_pass_155 : decode cX11_pass 155 = .ok (.getfield 41, 3) := by decide +kernel
theorem dX11_pass_158 : decode cX11_pass 158 = .ok (.aload_n 0, 1) := by decide +kernel
theorem dX11_pass_159 : decode cX11_pass 159 = .ok (.getfield 69, 3) := by decide +kernel
theorem dX11_pass_162 : decode cX11_pass 162 = .ok (.iload 9, 2) := by decide +kernel
theorem dX11_pass_164 : decode cX11_pass 164 = .ok (.iaload, 1) := by decide +kernel
theorem dX11_pass_165 : decode cX11_pass 165 = .ok (.iaload, 1) := by decide +kernel
theorem dX11_pass_166 : decode cX11_pass 166 = .ok (.iload_n 1, 1) := by decide +kernel
theorem dX11_pass_167 : decode cX11_pass 167 = .ok (.iload 9, 2) := by decide +kernel
theorem dX11_pass_169 : decode cX11_pass 169 = .ok (.invokevirtual 308, 3) := by decide +kernel
theorem dX11_pass_172 : decode cX11_pass 172 = .ok (.iadd, 1) := by decide +kernel
theorem dX11_pass_173 : decode cX11_pass 173 = .ok (.istore 8, 2) := by decide +kernel
theorem dX11_pass_175 : decode cX11_pass 175 = .ok (.iinc 9 1, 3) := by decide +kernel
theorem dX11_pass_178 : decode cX11_pass 178 = .ok (.goto (-36), 3) := by decide +kernel
theorem dX11_pass_181 : decode cX11_pass 181 = .ok (.iload 8, 2) := by decide +kernel
theorem dX11_pass_183 : decode cX11_pass 183 = .ok (.iload 4, 2) := by decide +kernel
theorem dX11_pass_185 : decode cX11_pass 185 = .ok (.if_icmp .le 39, 3) := by decide +kernel
theorem dX11_pass_188 : decode cX11_pass 188 = .ok (.iload 8, 2) := by decide +kernel
theorem dX11_pass_190 : decode cX11_pass 190 = .ok (.istore 4, 2) := by decide +kernel
theorem dX11_pass_192 : decode cX11_pass 192 = .ok (.iconst 0, 1) := by decide +kernel
theorem dX11_pass_193 : decode cX11_pass 193 = .ok (.istore 9, 2) := by decide +kernel
theorem dX11_pass_195 : decode cX11_pass 195 = .ok (.iload 9, 2) := by decide +kernel
theorem dX11_pass_197 : decode cX11_pass 197 = .ok (.aload_n 0, 1) := by decide +kernel
theorem dX11_pass_198 : decode cX11_pass 198 = .ok (.getfield 88, 3) := by decide +kernel
theorem dX11_pass_201 : decode cX11_pass 201 = .ok (.if_icmp .ge 23, 3) := by decide +kernel
theorem dX11_pass_204 : decode cX11_pass 204 = .ok (.aload_n 0, 1) := by decide +kernel
theorem dX11_pass_205 : decode cX11_pass 205 = .ok (.getfield 66, 3) := by decide +kernel
theorem dX11_pass_208 : decode cX11_pass 208 = .ok (.iload 9, 2) := by decide +kernel
theorem dX11_pass_210 : decode cX11_pass 210 = .ok (.aload_n 0, 1) := by decide +kernel
theorem dX11_pass_211 : decode cX11_pass 211 = .ok (.getfield 69, 3) := by decide +kernel
theorem dX11_pass_214 : decode cX11_pass 214 = .ok (.iload 9, 2) := by decide +kernel
theorem dX11_pass_216 : decode cX11_pass 216 = .ok (.iaload, 1) := by decide +kernel
theorem dX11_pass_217 : decode cX11_pass 217 = .ok (.iastore, 1) := by decide +kernel
theorem dX11_pass_218 : decode cX11_pass 218 = .ok (.iinc 9 1, 3) := by decide +kernel
theorem dX11_pass_221 : decode cX11_pass 221 = .ok (.goto (-26), 3) := by decide +kernel
theorem dX11_pass_224 : decode cX11_pass 224 = .ok (.iinc 5 1, 3) := by decide +kernel
theorem dX11_pass_227 : decode cX11_pass 227 = .ok (.goto (-176), 3) := by decide +kernel
theorem dX11_pass_230 : decode cX11_pass 230 = .ok (.iload_n 2, 1) := by decide +kernel
theorem dX11_pass_231 : decode cX11_pass 231 = .ok (.iconst (-1), 1) := by decide +kernel
theorem dX11_pass_232 : decode cX11_pass 232 = .ok (.if_icmp .ne 8, 3) := by decide +kernel
theorem dX11_pass_235 : decode cX11_pass 235 = .ok (.iload 4, 2) := by decide +kernel
theorem dX11_pass_237 : decode cX11_pass 237 = .ok (.goto 21, 3) := by decide +kernel
theorem dX11_pass_240 : decode cX11_pass 240 = .ok (.iload_n 2, 1) := by decide +kernel
theorem dX11_pass_241 : decode cX11_pass 241 = .ok (.aload_n 0, 1) := by decide +kernel
theorem dX11_pass_242 : decode cX11_pass 242 = .ok (.getfield 88, 3) := by decide +kernel
theorem dX11_pass_245 : decode cX11_pass 245 = .ok (.if_icmp .ge 12, 3) := by decide +kernel
theorem dX11_pass_248 : decode cX11_pass 248 = .ok (.aload_n 0, 1) := by decide +kernel
theorem dX11_pass_249 : decode cX11_pass 249 = .ok (.getfield 66, 3) := by decide +kernel
theorem dX11_pass_252 : decode cX11_pass 252 = .ok (.iload_n 2, 1) := by decide +kernel
theorem dX11_pass_253 : decode cX11_pass 253 = .ok (.iaload, 1) := by decide +kernel
theorem dX11_pass_254 : decode cX11_pass 254 = .ok (.goto 4, 3) := by decide +kernel
theorem dX11_pass_257 : decode cX11_pass 257 = .ok (.iconst (-1), 1) := by decide +kernel
theorem dX11_pass_258 : decode cX11_pass 258 = .ok (.ireturn, 1) := by decide +kernel
set_option maxRecDepth 20000 in
theorem ggX11_winds_X11_in : GoodIn wsX11_winds wsX11_in := goodIn_r _ [8] (by decide +kernel) (by decide +kernel)
set_option maxRecDepth 20000 in
theorem gX11_winds_X11_in : GoodIn wsX11_winds (va_wsS RX11 94 yX11_in wsX11_in) := goodIn_app (goodIn_of _ (by decide +kernel)) ggX11_winds_X11_in
set_option maxRecDepth 20000 in
theorem ggX11_winds_X11_loses : GoodIn wsX11_winds wsX11_loses := goodIn_r _ [11, 12, 13, 7, 14, 5, 6, 8] (by decide +kernel) (by decide +kernel)
set_option maxRecDepth 20000 in
theorem gX11_winds_X11_loses : GoodIn wsX11_winds (va_wsS RX11 211 yX11_loses wsX11_loses) := goodIn_app (goodIn_of _ (by decide +kernel)) ggX11_winds_X11_loses
theorem dX11_winds_0 : decode cX11_winds 0 = .ok (.iload_n 1, 1) := by decide +kernel
theorem dX11_winds_1 : decode cX11_winds 1 = .ok (.iconst 0, 1) := by decide +kernel
theorem dX11_winds_2 : decode cX11_winds 2 = .ok (.sipush 9999, 3) := by decide +kernel
theorem dX11_winds_5 : decode cX11_winds 5 = .ok (.invokestatic 94, 3) := by decide +kernel
theorem dX11_winds_8 : decode cX11_winds 8 = .ok (.ifCond .eq 33, 3) := by decide +kernel
theorem dX11_winds_11 : decode cX11_winds 11 = .ok (.iload_n 2, 1) := by decide +kernel
theorem dX11_winds_12 : decode cX11_winds 12 = .ok (.iconst 0, 1) := by decide +kernel
theorem dX11_winds_13 : decode cX11_winds 13 = .ok (.bipush 24, 2) := by decide +kernel
theorem dX11_winds_15 : decode cX11_winds 15 = .ok (.invokestatic 94, 3) := by decide +kernel
theorem dX11_winds_18 : decode cX11_winds 18 = .ok (.ifCond .eq 23, 3) := by decide +kernel
theorem dX11_winds_21 : decode cX11_winds 21 = .ok (.iload_n 3, 1) := by decide +kernel
theorem dX11_winds_22 : decode cX11_winds 22 = .ok (.iconst 0, 1) := by decide +kernel
theorem dX11_winds_23 : decode cX11_winds 23 = .ok (.bipush 99, 2) := by decide +kernel
theorem dX11_winds_25 : decode cX11_winds 25 = .ok (.invokestatic 94, 3) := by decide +kernel
theorem dX11_winds_28 : decode cX11_winds 28 = .ok (.ifCond .eq 13, 3) := by decide +kernel
theorem dX11_winds_31 : decode cX11_winds 31 = .ok (.iload 4, 2) := by decide +kernel
theorem dX11_winds_33 : decode cX11_winds 33 = .ok (.iconst 0, 1) := by decide +kernel
theorem dX11_winds_34 : decode cX11_winds 34 = .ok (.iconst 1, 1) := by decide +kernel
theorem dX11_winds_35 : decode cX11_winds 35 = .ok (.invokestatic 94, 3) := by decide +kernel
theorem dX11_winds_38 : decode cX11_winds 38 = .ok (.ifCond .ne 6, 3) := by decide +kernel
theorem dX11_winds_41 : decode cX11_winds 41 = .ok (.bipush (-3), 2) := by decide +kernel
theorem dX11_winds_43 : decode cX11_winds 43 = .ok (.ireturn, 1) := by decide +kernel
theorem dX11_winds_44 : decode cX11_winds 44 = .ok (.iconst 0, 1) := by decide +kernel
theorem dX11_winds_45 : decode cX11_winds 45 = .ok (.istore 5, 2) := by decide +kernel
theorem dX11_winds_47 : decode cX11_winds 47 = .ok (.iload_n 3, 1) := by decide +kernel
theorem dX11_winds_48 : decode cX11_winds 48 = .ok (.istore 6, 2) := by decide +kernel
theorem dX11_winds_50 : decode cX11_winds 50 = .ok (.iconst 0, 1) := by decide +kernel
theorem dX11_winds_51 : decode cX11_winds 51 = .ok (.istore 7, 2) := by decide +kernel
theorem dX11_winds_53 : decode cX11_winds 53 = .ok (.iload 7, 2) := by decide +kernel
theorem dX11_winds_55 : decode cX11_winds 55 = .ok (.iload_n 2, 1) := by decide +kernel
theorem dX11_winds_56 : decode cX11_winds 56 = .ok (.if_icmp .ge 84, 3) := by decide +kernel
theorem dX11_winds_59 : decode cX11_winds 59 = .ok (.ldc2_w 312, 3) := by decide +kernel
theorem dX11_winds_62 : decode cX11_winds 62 = .ok (.iload_n 1, 1) := by decide +kernel
theorem dX11_winds_63 : decode cX11_winds 63 = .ok (.i2l, 1) := by decide +kernel
theorem dX11_winds_64 : decode cX11_winds 64 = .ok (.lmul, 1) := by decide +kernel
theorem dX11_winds_65 : decode cX11_winds 65 = .ok (.ldc2_w 314, 3) := by decide +kernel
theorem dX11_winds_68 : decode cX11_winds 68 = .ok (.iload 7, 2) := by decide +kernel
theorem dX11_winds_70 : decode cX11_winds 70 = .ok (.i2l, 1) := by decide +kernel
theorem dX11_winds_71 : decode cX11_winds 71 = .ok (.lmul, 1) := by decide +kernel
theorem dX11_winds_72 : decode cX11_winds 72 = .ok (.ladd, 1) := by decide +kernel
theorem dX11_winds_73 : decode cX11_winds 73 = .ok (.lconst 1, 1) := by decide +kernel
theorem dX11_winds_74 : decode cX11_winds 74 = .ok (.ladd, 1) := by decide +kernel
theorem dX11_winds_75 : decode cX11_winds 75 = .ok (.lstore 8, 2) := by decide +kernel
theorem dX11_winds_77 : decode cX11_winds 77 = .ok (.lload 8, 2) := by decide +kernel
theorem dX11_winds_79 : decode cX11_winds 79 = .ok (.lload 8, 2) := by decide +kernel
theorem dX11_winds_81 : decode cX11_winds 81 = .ok (.lmul, 1) := by decide +kernel
theorem dX11_winds_82 : decode cX11_winds 82 = .ok (.ldc2_w 316, 3) := by decide +kernel
theorem dX11_winds_85 : decode cX11_winds 85 = .ok (.lrem, 1) := by decide +kernel
theorem dX11_winds_86 : decode cX11_winds 86 = .ok (.ldc2_w 318, 3) := by decide +kernel
theorem dX11_winds_89 : decode cX11_winds 89 = .ok (.lrem, 1) := by decide +kernel
theorem dX11_winds_90 : decode cX11_winds 90 = .ok (.lconst 0, 1) := by decide +kernel
theorem dX11_winds_91 : decode cX11_winds 91 = .ok (.lcmp, 1) := by decide +kernel
theorem dX11_winds_92 : decode cX11_winds 92 = .ok (.ifCond .ne 7, 3) := by decide +kernel
theorem dX11_winds_95 : decode cX11_winds 95 = .ok (.iconst 1, 1) := by decide +kernel
theorem dX11_winds_96 : decode cX11_winds 96 = .ok (.goto 4, 3) := by decide +kernel
theorem dX11_winds_99 : decode cX11_winds 99 = .ok (.iconst 0, 1) := by decide +kernel
theorem dX11_winds_100 : decode cX11_winds 100 = .ok (.istore 10, 2) := by decide +kernel
theorem dX11_winds_102 : decode cX11_winds 102 = .ok (.iload 5, 2) := by decide +kernel
theorem dX11_winds_104 : decode cX11_winds 104 = .ok (.iload 10, 2) := by decide +kernel
theorem dX11_winds_106 : decode cX11_winds 106 = .ok (.ifCond .eq 7, 3) := by decide +kernel
theorem dX11_winds_109 : decode cX11_winds 109 = .ok (.iconst 1, 1) := by decide +kernel
theorem dX11_winds_110 : decode cX11_winds 110 = .ok (.goto 4, 3) := by decide +kernel
theorem dX11_winds_113 : decode cX11_winds 113 = .ok (.iconst 0, 1) := by decide +kernel
theorem dX11_winds_114 : decode cX11_winds 114 = .ok (.iadd, 1) := by decide +kernel
theorem dX11_winds_115 : decode cX11_winds 115 = .ok (.istore 5, 2) := by decide +kernel
theorem dX11_winds_117 : decode cX11_winds 117 = .ok (.iload 6, 2) := by decide +kernel
theorem dX11_winds_119 : decode cX11_winds 119 = .ok (.iload 6, 2) := by decide +kernel
theorem dX11_winds_121 : decode cX11_winds 121 = .ok (.iconst 0, 1) := by decide +kernel
theorem dX11_winds_122 : decode cX11_winds 122 = .ok (.iconst 0, 1) := by decide +kernel
theorem dX11_winds_123 : decode cX11_winds 123 = .ok (.iload 7, 2) := by decide +kernel
theorem dX11_winds_125 : decode cX11_winds 125 = .ok (.iload 10, 2) := by decide +kernel
theorem dX11_winds_127 : decode cX11_winds 127 = .ok (.iconst 0, 1) := by decide +kernel
theorem dX11_winds_128 : decode cX11_winds 128 = .ok (.invokestatic 211, 3) := by decide +kernel
theorem dX11_winds_131 : decode cX11_winds 131 = .ok (.isub, 1) := by decide +kernel
theorem dX11_winds_132 : decode cX11_winds 132 = .ok (.istore 6, 2) := by decide +kernel
theorem dX11_winds_134 : decode cX11_winds 134 = .ok (.iinc 7 1, 3) := by decide +kernel
theorem dX11_winds_137 : decode cX11_winds 137 = .ok (.goto (-84), 3) := by decide +kernel
theorem dX11_winds_140 : decode cX11_winds 140 = .ok (.iload 4, 2) := by decide +kernel
theorem dX11_winds_142 : decode cX11_winds 142 = .ok (.ifCond .ne 8, 3) := by decide +kernel
theorem dX11_winds_145 : decode cX11_winds 145 = .ok (.iload 5, 2) := by decide +kernel
theorem dX11_winds_147 : decode cX11_winds 147 = .ok (.goto 5, 3) := by decide +kernel
theorem dX11_winds_150 : decode cX11_winds 150 = .ok (.iload 6, 2) := by decide +kernel
theorem dX11_winds_152 : decode cX11_winds 152 = .ok (.ireturn, 1) := by decide +kernel
set_option maxRecDepth 20000 in
theorem ggX11_count_X11_isWarm : GoodIn wsX11_count wsX11_isWarm := goodIn_r _ [13, 14, 15, 16, 17, 18, 19, 20, 21, 22, 23, 24, 25, 26, 27, 28, 29, 30, 31, 32, 33, 34, 35, 36, 37, 38, 39, 40, 41, 42, 43, 44, 45, 46, 47, 48, 49, 50, 51, 52, 53] (by decide +kernel) (by decide +kernel)
set_option maxRecDepth 20000 in
theorem gX11_count_X11_isWarm : GoodIn wsX11_count (wsV RX11 208 RX11 yX11_isWarm wsX11_isWarm) := goodIn_app (goodIn_of _ (by decide +kernel)) ggX11_count_X11_isWarm
theorem dX11_count_0 : decode cX11_count 0 = .ok (.iconst 0, 1) := by decide +kernel
theorem dX11_count_1 : decode cX11_count 1 = .ok (.istore_n 2, 1) := by decide +kernel
theorem dX11_count_2 : decode cX11_count 2 = .ok (.iconst 0, 1) := by decide +kernel
theorem dX11_count_3 : decode cX11_count 3 = .ok (.istore_n 3, 1) := by decide +kernel
theorem dX11_count_4 : decode cX11_count 4 = .ok (.iconst 0, 1) := by decide +kernel
theorem dX11_count_5 : decode cX11_count 5 = .ok (.istore 4, 2) := by decide +kernel
theorem dX11_count_7 : decode cX11_count 7 = .ok (.iconst 0, 1) := by decide +kernel
theorem dX11_count_8 : decode cX11_count 8 = .ok (.istore 5, 2) := by decide +kernel
theorem dX11_count_10 : decode cX11_count 10 = .ok (.iload 5, 2) := by decide +kernel
theorem dX11_count_12 : decode cX11_count 12 = .ok (.aload_n 0, 1) := by decide +kernel
theorem dX11_count_13 : decode cX11_count 13 = .ok (.getfield 78, 3) := by decide +kernel
theorem dX11_count_16 : decode cX11_count 16 = .ok (.if_icmp .ge 22, 3) := by decide +kernel
theorem dX11_count_19 : decode cX11_count 19 = .ok (.iload_n 2, 1) := by decide +kernel
theorem dX11_count_20 : decode cX11_count 20 = .ok (.aload_n 0, 1) := by decide +kernel
theorem dX11_count_21 : decode cX11_count 21 = .ok (.getfield 25, 3) := by decide +kernel
theorem dX11_count_24 : decode cX11_count 24 = .ok (.bipush 8, 2) := by decide +kernel
theorem dX11_count_26 : decode cX11_count 26 = .ok (.iload 5, 2) := by decide +kernel
theorem dX11_count_28 : decode cX11_count 28 = .ok (.iadd, 1) := by decide +kernel
theorem dX11_count_29 : decode cX11_count 29 = .ok (.iaload, 1) := by decide +kernel
theorem dX11_count_30 : decode cX11_count 30 = .ok (.iadd, 1) := by decide +kernel
theorem dX11_count_31 : decode cX11_count 31 = .ok (.istore_n 2, 1) := by decide +kernel
theorem dX11_count_32 : decode cX11_count 32 = .ok (.iinc 5 1, 3) := by decide +kernel
theorem dX11_count_35 : decode cX11_count 35 = .ok (.goto (-25), 3) := by decide +kernel
theorem dX11_count_38 : decode cX11_count 38 = .ok (.iconst 0, 1) := by decide +kernel
theorem dX11_count_39 : decode cX11_count 39 = .ok (.istore 5, 2) := by decide +kernel
theorem dX11_count_41 : decode cX11_count 41 = .ok (.iload 5, 2) := by decide +kernel
theorem dX11_count_43 : decode cX11_count 43 = .ok (.aload_n 0, 1) := by decide +kernel
theorem dX11_count_44 : decode cX11_count 44 = .ok (.getfield 91, 3) := by decide +kernel
theorem dX11_count_47 : decode cX11_count 47 = .ok (.if_icmp .ge 22, 3) := by decide +kernel
theorem dX11_count_50 : decode cX11_count 50 = .ok (.iload_n 3, 1) := by decide +kernel
theorem dX11_count_51 : decode cX11_count 51 = .ok (.aload_n 0, 1) := by decide +kernel
theorem dX11_count_52 : decode cX11_count 52 = .ok (.getfield 25, 3) := by decide +kernel
theorem dX11_count_55 : decode cX11_count 55 = .ok (.bipush 12, 2) := by decide +kernel
theorem dX11_count_57 : decode cX11_count 57 = .ok (.iload 5, 2) := by decide +kernel
theorem dX11_count_59 : decode cX11_count 59 = .ok (.iadd, 1) := by decide +kernel
theorem dX11_count_60 : decode cX11_count 60 = .ok (.iaload, 1) := by decide +kernel
theorem dX11_count_61 : decode cX11_count 61 = .ok (.iadd, 1) := by decide +kernel
theorem dX11_count_62 : decode cX11_count 62 = .ok (.istore_n 3, 1) := by decide +kernel
theorem dX11_count_63 : decode cX11_count 63 = .ok (.iinc 5 1, 3) := by decide +kernel
theorem dX11_count_66 : decode cX11_count 66 = .ok (.goto (-25), 3) := by decide +kernel
theorem dX11_count_69 : decode cX11_count 69 = .ok (.iconst 0, 1) := by decide +kernel
theorem dX11_count_70 : decode cX11_count 70 = .ok (.istore 5, 2) := by decide +kernel
theorem dX11_count_72 : decode cX11_count 72 = .ok (.iload 5, 2) := by decide +kernel
theorem dX11_count_74 : decode cX11_count 74 = .ok (.bipush 48, 2) := by decide +kernel
theorem dX11_count_76 : decode cX11_count 76 = .ok (.if_icmp .ge 28, 3) := by decide +kernel
theorem dX11_count_79 : decode cX11_count 79 = .ok (.iload 4, 2) := by decide +kernel
theorem dX11_count_81 : decode cX11_count 81 = .ok (.aload_n 0, 1) := by decide +kernel
theorem dX11_count_82 : decode cX11_count 82 = .ok (.iload 5, 2) := by decide +kernel
theorem dX11_count_84 : decode cX11_count 84 = .ok (.invokevirtual 208, 3) := by decide +kernel
theorem dX11_count_87 : decode cX11_count 87 = .ok (.ifCond .eq 7, 3) := by decide +kernel
theorem dX11_count_90 : decode cX11_count 90 = .ok (.iconst 1, 1) := by decide +kernel
theorem dX11_count_91 : decode cX11_count 91 = .ok (.goto 4, 3) := by decide +kernel
theorem dX11_count_94 : decode cX11_count 94 = .ok (.iconst 0, 1) := by decide +kernel
theorem dX11_count_95 : decode cX11_count 95 = .ok (.iadd, 1) := by decide +kernel
theorem dX11_count_96 : decode cX11_count 96 = .ok (.istore 4, 2) := by decide +kernel
theorem dX11_count_98 : decode cX11_count 98 = .ok (.iinc 5 1, 3) := by decide +kernel
theorem dX11_count_101 : decode cX11_count 101 = .ok (.goto (-29), 3) := by decide +kernel
theorem dX11_count_104 : decode cX11_count 104 = .ok (.iload_n 1, 1) := by decide +kernel
theorem dX11_count_105 : decode cX11_count 105 = .ok (.tableswitch 109 0 10 #[59, 64, 69, 74, 77, 85, 87, 89, 94, 99, 104], 59) := by decide +kernel
theorem dX11_count_164 : decode cX11_count 164 = .ok (.aload_n 0, 1) := by decide +kernel
theorem dX11_count_165 : decode cX11_count 165 = .ok (.getfield 91, 3) := by decide +kernel
theorem dX11_count_168 : decode cX11_count 168 = .ok (.ireturn, 1) := by decide +kernel
theorem dX11_count_169 : decode cX11_count 169 = .ok (.aload_n 0, 1) := by decide +kernel
theorem dX11_count_170 : decode cX11_count 170 = .ok (.getfield 98, 3) := by decide +kernel
theorem dX11_count_173 : decode cX11_count 173 = .ok (.ireturn, 1) := by decide +kernel
theorem dX11_count_174 : decode cX11_count 174 = .ok (.aload_n 0, 1) := by decide +kernel
theorem dX11_count_175 : decode cX11_count 175 = .ok (.getfield 78, 3) := by decide +kernel
theorem dX11_count_178 : decode cX11_count 178 = .ok (.ireturn, 1) := by decide +kernel
theorem dX11_count_179 : decode cX11_count 179 = .ok (.iload 4, 2) := by decide +kernel
theorem dX11_count_181 : decode cX11_count 181 = .ok (.ireturn, 1) := by decide +kernel
theorem dX11_count_182 : decode cX11_count 182 = .ok (.aload_n 0, 1) := by decide +kernel
theorem dX11_count_183 : decode cX11_count 183 = .ok (.getfield 25, 3) := by decide +kernel
theorem dX11_count_186 : decode cX11_count 186 = .ok (.bipush 19, 2) := by decide +kernel
theorem dX11_count_188 : decode cX11_count 188 = .ok (.iaload, 1) := by decide +kernel
theorem dX11_count_189 : decode cX11_count 189 = .ok (.ireturn, 1) := by decide +kernel
theorem dX11_count_190 : decode cX11_count 190 = .ok (.iload_n 2, 1) := by decide +kernel
theorem dX11_count_191 : decode cX11_count 191 = .ok (.ireturn, 1) := by decide +kernel
theorem dX11_count_192 : decode cX11_count 192 = .ok (.iload_n 3, 1) := by decide +kernel
theorem dX11_count_193 : decode cX11_count 193 = .ok (.ireturn, 1) := by decide +kernel
theorem dX11_count_194 : decode cX11_count 194 = .ok (.aload_n 0, 1) := by decide +kernel
theorem dX11_count_195 : decode cX11_count 195 = .ok (.getfield 85, 3) := by decide +kernel
theorem dX11_count_198 : decode cX11_count 198 = .ok (.ireturn, 1) := by decide +kernel
theorem dX11_count_199 : decode cX11_count 199 = .ok (.aload_n 0, 1) := by decide +kernel
theorem dX11_count_200 : decode cX11_count 200 = .ok (.getfield 88, 3) := by decide +kernel
theorem dX11_count_203 : decode cX11_count 203 = .ok (.ireturn, 1) := by decide +kernel
theorem dX11_count_204 : decode cX11_count 204 = .ok (.aload_n 0, 1) := by decide +kernel
theorem dX11_count_205 : decode cX11_count 205 = .ok (.getfield 82, 3) := by decide +kernel
theorem dX11_count_208 : decode cX11_count 208 = .ok (.ireturn, 1) := by decide +kernel
theorem dX11_count_209 : decode cX11_count 209 = .ok (.aload_n 0, 1) := by decide +kernel
theorem dX11_count_210 : decode cX11_count 210 = .ok (.getfield 101, 3) := by decide +kernel
theorem dX11_count_213 : decode cX11_count 213 = .ok (.ireturn, 1) := by decide +kernel
theorem dX11_count_214 : decode cX11_count 214 = .ok (.bipush (-3), 2) := by decide +kernel
theorem dX11_count_216 : decode cX11_count 216 = .ok (.ireturn, 1) := by decide +kernel
theorem dJ6_bitCount_0f7a4_0 : decode cJ6_bitCount_0f7a4 0 = .ok (.iload_n 0, 1) := by decide +kernel
theorem dJ6_bitCount_0f7a4_1 : decode cJ6_bitCount_0f7a4 1 = .ok (.iload_n 0, 1) := by decide +kernel
theorem dJ6_bitCount_0f7a4_2 : decode cJ6_bitCount_0f7a4 2 = .ok (.iconst 1, 1) := by decide +kernel
theorem dJ6_bitCount_0f7a4_3 : decode cJ6_bitCount_0f7a4 3 = .ok (.iushr, 1) := by decide +kernel
theorem dJ6_bitCount_0f7a4_4 : decode cJ6_bitCount_0f7a4 4 = .ok (.ldc_w 265, 3) := by decide +kernel
theorem dJ6_bitCount_0f7a4_7 : decode cJ6_bitCount_0f7a4 7 = .ok (.iand, 1) := by decide +kernel
theorem dJ6_bitCount_0f7a4_8 : decode cJ6_bitCount_0f7a4 8 = .ok (.isub, 1) := by decide +kernel
theorem dJ6_bitCount_0f7a4_9 : decode cJ6_bitCount_0f7a4 9 = .ok (.istore_n 0, 1) := by decide +kernel
theorem dJ6_bitCount_0f7a4_10 : decode cJ6_bitCount_0f7a4 10 = .ok (.iload_n 0, 1) := by decide +kernel
theorem dJ6_bitCount_0f7a4_11 : decode cJ6_bitCount_0f7a4 11 = .ok (.ldc_w 266, 3) := by decide +kernel
theorem dJ6_bitCount_0f7a4_14 : decode cJ6_bitCount_0f7a4 14 = .ok (.iand, 1) := by decide +kernel
theorem dJ6_bitCount_0f7a4_15 : decode cJ6_bitCount_0f7a4 15 = .ok (.iload_n 0, 1) := by decide +kernel
theorem dJ6_bitCount_0f7a4_16 : decode cJ6_bitCount_0f7a4 16 = .ok (.iconst 2, 1) := by decide +kernel
theorem dJ6_bitCount_0f7a4_17 : decode cJ6_bitCount_0f7a4 17 = .ok (.iushr, 1) := by decide +kernel
theorem dJ6_bitCount_0f7a4_18 : decode cJ6_bitCount_0f7a4 18 = .ok (.ldc_w 266, 3) := by decide +kernel
theorem dJ6_bitCount_0f7a4_21 : decode cJ6_bitCount_0f7a4 21 = .ok (.iand, 1) := by decide +kernel
theorem dJ6_bitCount_0f7a4_22 : decode cJ6_bitCount_0f7a4 22 = .ok (.iadd, 1) := by decide +kernel
theorem dJ6_bitCount_0f7a4_23 : decode cJ6_bitCount_0f7a4 23 = .ok (.istore_n 0, 1) := by decide +kernel
theorem dJ6_bitCount_0f7a4_24 : decode cJ6_bitCount_0f7a4 24 = .ok (.iload_n 0, 1) := by decide +kernel
theorem dJ6_bitCount_0f7a4_25 : decode cJ6_bitCount_0f7a4 25 = .ok (.iload_n 0, 1) := by decide +kernel
theorem dJ6_bitCount_0f7a4_26 : decode cJ6_bitCount_0f7a4 26 = .ok (.iconst 4, 1) := by decide +kernel
theorem dJ6_bitCount_0f7a4_27 : decode cJ6_bitCount_0f7a4 27 = .ok (.iushr, 1) := by decide +kernel
theorem dJ6_bitCount_0f7a4_28 : decode cJ6_bitCount_0f7a4 28 = .ok (.iadd, 1) := by decide +kernel
theorem dJ6_bitCount_0f7a4_29 : decode cJ6_bitCount_0f7a4 29 = .ok (.ldc_w 267, 3) := by decide +kernel
theorem dJ6_bitCount_0f7a4_32 : decode cJ6_bitCount_0f7a4 32 = .ok (.iand, 1) := by decide +kernel
theorem dJ6_bitCount_0f7a4_33 : decode cJ6_bitCount_0f7a4 33 = .ok (.istore_n 0, 1) := by decide +kernel
theorem dJ6_bitCount_0f7a4_34 : decode cJ6_bitCount_0f7a4 34 = .ok (.iload_n 0, 1) := by decide +kernel
theorem dJ6_bitCount_0f7a4_35 : decode cJ6_bitCount_0f7a4 35 = .ok (.iload_n 0, 1) := by decide +kernel
theorem dJ6_bitCount_0f7a4_36 : decode cJ6_bitCount_0f7a4 36 = .ok (.bipush 8, 2) := by decide +kernel
theorem dJ6_bitCount_0f7a4_38 : decode cJ6_bitCount_0f7a4 38 = .ok (.iushr, 1) := by decide +kernel
theorem dJ6_bitCount_0f7a4_39 : decode cJ6_bitCount_0f7a4 39 = .ok (.iadd, 1) := by decide +kernel
theorem dJ6_bitCount_0f7a4_40 : decode cJ6_bitCount_0f7a4 40 = .ok (.istore_n 0, 1) := by decide +kernel
theorem dJ6_bitCount_0f7a4_41 : decode cJ6_bitCount_0f7a4 41 = .ok (.iload_n 0, 1) := by decide +kernel
theorem dJ6_bitCount_0f7a4_42 : decode cJ6_bitCount_0f7a4 42 = .ok (.iload_n 0, 1) := by decide +kernel
theorem dJ6_bitCount_0f7a4_43 : decode cJ6_bitCount_0f7a4 43 = .ok (.bipush 16, 2) := by decide +kernel
theorem dJ6_bitCount_0f7a4_45 : decode cJ6_bitCount_0f7a4 45 = .ok (.iushr, 1) := by decide +kernel
theorem dJ6_bitCount_0f7a4_46 : decode cJ6_bitCount_0f7a4 46 = .ok (.iadd, 1) := by decide +kernel
theorem dJ6_bitCount_0f7a4_47 : decode cJ6_bitCount_0f7a4 47 = .ok (.istore_n 0, 1) := by decide +kernel
theorem dJ6_bitCount_0f7a4_48 : decode cJ6_bitCount_0f7a4 48 = .ok (.iload_n 0, 1) := by decide +kernel
theorem dJ6_bitCount_0f7a4_49 : decode cJ6_bitCount_0f7a4 49 = .ok (.bipush 63, 2) := by decide +kernel
theorem dJ6_bitCount_0f7a4_51 : decode cJ6_bitCount_0f7a4 51 = .ok (.iand, 1) := by decide +kernel
theorem dJ6_bitCount_0f7a4_52 : decode cJ6_bitCount_0f7a4 52 = .ok (.ireturn, 1) := by decide +kernel
theorem dJ13_bitCount_95d88_0 : decode cJ13_bitCount_95d88 0 = .ok (.lload_n 0, 1) := by decide +kernel
theorem dJ13_bitCount_95d88_1 : decode cJ13_bitCount_95d88 1 = .ok (.lload_n 0, 1) := by decide +kernel
theorem dJ13_bitCount_95d88_2 : decode cJ13_bitCount_95d88 2 = .ok (.iconst 1, 1) := by decide +kernel
theorem dJ13_bitCount_95d88_3 : decode cJ13_bitCount_95d88 3 = .ok (.lushr, 1) := by decide +kernel
theorem dJ13_bitCount_95d88_4 : decode cJ13_bitCount_95d88 4 = .ok (.ldc2_w 314, 3) := by decide +kernel
theorem dJ13_bitCount_95d88_7 : decode cJ13_bitCount_95d88 7 = .ok (.land, 1) := by decide +kernel
theorem dJ13_bitCount_95d88_8 : decode cJ13_bitCount_95d88 8 = .ok (.lsub, 1) := by decide +kernel
theorem dJ13_bitCount_95d88_9 : decode cJ13_bitCount_95d88 9 = .ok (.lstore_n 0, 1) := by decide +kernel
theorem dJ13_bitCount_95d88_10 : decode cJ13_bitCount_95d88 10 = .ok (.lload_n 0, 1) := by decide +kernel
theorem dJ13_bitCount_95d88_11 : decode cJ13_bitCount_95d88 11 = .ok (.ldc2_w 316, 3) := by decide +kernel
theorem dJ13_bitCount_95d88_14 : decode cJ13_bitCount_95d88 14 = .ok (.land, 1) := by decide +kernel
theorem dJ13_bitCount_95d88_15 : decode cJ13_bitCount_95d88 15 = .ok (.lload_n 0, 1) := by decide +kernel
theorem dJ13_bitCount_95d88_16 : decode cJ13_bitCount_95d88 16 = .ok (.iconst 2, 1) := by decide +kernel
theorem dJ13_bitCount_95d88_17 : decode cJ13_bitCount_95d88 17 = .ok (.lushr, 1) := by decide +kernel
theorem dJ13_bitCount_95d88_18 : decode cJ13_bitCount_95d88 18 = .ok (.ldc2_w 316, 3) := by decide +kernel
theorem dJ13_bitCount_95d88_21 : decode cJ13_bitCount_95d88 21 = .ok (.land, 1) := by decide +kernel
theorem dJ13_bitCount_95d88_22 : decode cJ13_bitCount_95d88 22 = .ok (.ladd, 1) := by decide +kernel
theorem dJ13_bitCount_95d88_23 : decode cJ13_bitCount_95d88 23 = .ok (.lstore_n 0, 1) := by decide +kernel
theorem dJ13_bitCount_95d88_24 : decode cJ13_bitCount_95d88 24 = .ok (.lload_n 0, 1) := by decide +kernel
theorem dJ13_bitCount_95d88_25 : decode cJ13_bitCount_95d88 25 = .ok (.lload_n 0, 1) := by decide +kernel
theorem dJ13_bitCount_95d88_26 : decode cJ13_bitCount_95d88 26 = .ok (.iconst 4, 1) := by decide +kernel
theorem dJ13_bitCount_95d88_27 : decode cJ13_bitCount_95d88 27 = .ok (.lushr, 1) := by decide +kernel
theorem dJ13_bitCount_95d88_28 : decode cJ13_bitCount_95d88 28 = .ok (.ladd, 1) := by decide +kernel
theorem dJ13_bitCount_95d88_29 : decode cJ13_bitCount_95d88 29 = .ok (.ldc2_w 318, 3) := by decide +kernel
theorem dJ13_bitCount_95d88_32 : decode cJ13_bitCount_95d88 32 = .ok (.land, 1) := by decide +kernel
theorem dJ13_bitCount_95d88_33 : decode cJ13_bitCount_95d88 33 = .ok (.lstore_n 0, 1) := by decide +kernel
theorem dJ13_bitCount_95d88_34 : decode cJ13_bitCount_95d88 34 = .ok (.lload_n 0, 1) := by decide +kernel
theorem dJ13_bitCount_95d88_35 : decode cJ13_bitCount_95d88 35 = .ok (.lload_n 0, 1) := by decide +kernel
theorem dJ13_bitCount_95d88_36 : decode cJ13_bitCount_95d88 36 = .ok (.bipush 8, 2) := by decide +kernel
theorem dJ13_bitCount_95d88_38 : decode cJ13_bitCount_95d88 38 = .ok (.lushr, 1) := by decide +kernel
theorem dJ13_bitCount_95d88_39 : decode cJ13_bitCount_95d88 39 = .ok (.ladd, 1) := by decide +kernel
theorem dJ13_bitCount_95d88_40 : decode cJ13_bitCount_95d88 40 = .ok (.lstore_n 0, 1) := by decide +kernel
theorem dJ13_bitCount_95d88_41 : decode cJ13_bitCount_95d88 41 = .ok (.lload_n 0, 1) := by decide +kernel
theorem dJ13_bitCount_95d88_42 : decode cJ13_bitCount_95d88 42 = .ok (.lload_n 0, 1) := by decide +kernel
theorem dJ13_bitCount_95d88_43 : decode cJ13_bitCount_95d88 43 = .ok (.bipush 16, 2) := by decide +kernel
theorem dJ13_bitCount_95d88_45 : decode cJ13_bitCount_95d88 45 = .ok (.lushr, 1) := by decide +kernel
theorem dJ13_bitCount_95d88_46 : decode cJ13_bitCount_95d88 46 = .ok (.ladd, 1) := by decide +kernel
theorem dJ13_bitCount_95d88_47 : decode cJ13_bitCount_95d88 47 = .ok (.lstore_n 0, 1) := by decide +kernel
theorem dJ13_bitCount_95d88_48 : decode cJ13_bitCount_95d88 48 = .ok (.lload_n 0, 1) := by decide +kernel
theorem dJ13_bitCount_95d88_49 : decode cJ13_bitCount_95d88 49 = .ok (.lload_n 0, 1) := by decide +kernel
theorem dJ13_bitCount_95d88_50 : decode cJ13_bitCount_95d88 50 = .ok (.bipush 32, 2) := by decide +kernel
theorem dJ13_bitCount_95d88_52 : decode cJ13_bitCount_95d88 52 = .ok (.lushr, 1) := by decide +kernel
theorem dJ13_bitCount_95d88_53 : decode cJ13_bitCount_95d88 53 = .ok (.ladd, 1) := by decide +kernel
theorem dJ13_bitCount_95d88_54 : decode cJ13_bitCount_95d88 54 = .ok (.lstore_n 0, 1) := by decide +kernel
theorem dJ13_bitCount_95d88_55 : decode cJ13_bitCount_95d88 55 = .ok (.lload_n 0, 1) := by decide +kernel
theorem dJ13_bitCount_95d88_56 : decode cJ13_bitCount_95d88 56 = .ok (.l2i, 1) := by decide +kernel
theorem dJ13_bitCount_95d88_57 : decode cJ13_bitCount_95d88 57 = .ok (.bipush 127, 2) := by decide +kernel
theorem dJ13_bitCount_95d88_59 : decode cJ13_bitCount_95d88 59 = .ok (.iand, 1) := by decide +kernel
theorem dJ13_bitCount_95d88_60 : decode cJ13_bitCount_95d88 60 = .ok (.ireturn, 1) := by decide +kernel
theorem dJ9_max_7cf53_0 : decode cJ9_max_7cf53 0 = .ok (.iload_n 0, 1) := by decide +kernel
theorem dJ9_max_7cf53_1 : decode cJ9_max_7cf53 1 = .ok (.iload_n 1, 1) := by decide +kernel
theorem dJ9_max_7cf53_2 : decode cJ9_max_7cf53 2 = .ok (.if_icmp .lt 7, 3) := by decide +kernel
theorem dJ9_max_7cf53_5 : decode cJ9_max_7cf53 5 = .ok (.iload_n 0, 1) := by decide +kernel
theorem dJ9_max_7cf53_6 : decode cJ9_max_7cf53 6 = .ok (.goto 4, 3) := by decide +kernel
theorem dJ9_max_7cf53_9 : decode cJ9_max_7cf53 9 = .ok (.iload_n 1, 1) := by decide +kernel
theorem dJ9_max_7cf53_10 : decode cJ9_max_7cf53 10 = .ok (.ireturn, 1) := by decide +kernel
theorem dJ9_max_f86c9_0 : decode cJ9_max_f86c9 0 = .ok (.lload_n 0, 1) := by decide +kernel
theorem dJ9_max_f86c9_1 : decode cJ9_max_f86c9 1 = .ok (.lload_n 2, 1) := by decide +kernel
theorem dJ9_max_f86c9_2 : decode cJ9_max_f86c9 2 = .ok (.lcmp, 1) := by decide +kernel
theorem dJ9_max_f86c9_3 : decode cJ9_max_f86c9 3 = .ok (.ifCond .lt 7, 3) := by decide +kernel
theorem dJ9_max_f86c9_6 : decode cJ9_max_f86c9 6 = .ok (.lload_n 0, 1) := by decide +kernel
theorem dJ9_max_f86c9_7 : decode cJ9_max_f86c9 7 = .ok (.goto 4, 3) := by decide +kernel
theorem dJ9_max_f86c9_10 : decode cJ9_max_f86c9 10 = .ok (.lload_n 2, 1) := by decide +kernel
theorem dJ9_max_f86c9_11 : decode cJ9_max_f86c9 11 = .ok (.lreturn, 1) := by decide +kernel
theorem dJ9_min_7cf53_0 : decode cJ9_min_7cf53 0 = .ok (.iload_n 0, 1) := by decide +kernel
theorem dJ9_min_7cf53_1 : decode cJ9_min_7cf53 1 = .ok (.iload_n 1, 1) := by decide +kernel
theorem dJ9_min_7cf53_2 : decode cJ9_min_7cf53 2 = .ok (.if_icmp .gt 7, 3) := by decide +kernel
theorem dJ9_min_7cf53_5 : decode cJ9_min_7cf53 5 = .ok (.iload_n 0, 1) := by decide +kernel
theorem dJ9_min_7cf53_6 : decode cJ9_min_7cf53 6 = .ok (.goto 4, 3) := by decide +kernel
theorem dJ9_min_7cf53_9 : decode cJ9_min_7cf53 9 = .ok (.iload_n 1, 1) := by decide +kernel
theorem dJ9_min_7cf53_10 : decode cJ9_min_7cf53 10 = .ok (.ireturn, 1) := by decide +kernel
set_option maxRecDepth 20000 in
theorem ggJ0_length_8abf5_J0_coder_7d493 : GoodIn wsJ0_length_8abf5 wsJ0_coder_7d493 := goodIn_r _ [6, 7, 8] (by decide +kernel) (by decide +kernel)
set_option maxRecDepth 20000 in
theorem gJ0_length_8abf5_J0_coder_7d493 : GoodIn wsJ0_length_8abf5 (wsV RJ0 335 RJ0 yJ0_coder_7d493 wsJ0_coder_7d493) := goodIn_app (goodIn_of _ (by decide +kernel)) ggJ0_length_8abf5_J0_coder_7d493
theorem dJ0_length_8abf5_0 : decode cJ0_length_8abf5 0 = .ok (.aload_n 0, 1) := by decide +kernel
theorem dJ0_length_8abf5_1 : decode cJ0_length_8abf5 1 = .ok (.getfield 9, 3) := by decide +kernel
theorem dJ0_length_8abf5_4 : decode cJ0_length_8abf5 4 = .ok (.arraylength, 1) := by decide +kernel
theorem dJ0_length_8abf5_5 : decode cJ0_length_8abf5 5 = .ok (.aload_n 0, 1) := by decide +kernel
theorem dJ0_length_8abf5_6 : decode cJ0_length_8abf5 6 = .ok (.invokevirtual 335, 3) := by decide +kernel
theorem dJ0_length_8abf5_9 : decode cJ0_length_8abf5 9 = .ok (.ishr, 1) := by decide +kernel
theorem dJ0_length_8abf5_10 : decode cJ0_length_8abf5 10 = .ok (.ireturn, 1) := by decide +kernel
theorem dJ0_isEmpty_aae02_0 : decode cJ0_isEmpty_aae02 0 = .ok (.aload_n 0, 1) := by decide +kernel
theorem dJ0_isEmpty_aae02_1 : decode cJ0_isEmpty_aae02 1 = .ok (.getfield 9, 3) := by decide +kernel
theorem dJ0_isEmpty_aae02_4 : decode cJ0_isEmpty_aae02 4 = .ok (.arraylength, 1) := by decide +kernel
theorem dJ0_isEmpty_aae02_5 : decode cJ0_isEmpty_aae02 5 = .ok (.ifCond .ne 7, 3) := by decide +kernel
theorem dJ0_isEmpty_aae02_8 : decode cJ0_isEmpty_aae02 8 = .ok (.iconst 1, 1) := by decide +kernel
theorem dJ0_isEmpty_aae02_9 : decode cJ0_isEmpty_aae02 9 = .ok (.goto 4, 3) := by decide +kernel
theorem dJ0_isEmpty_aae02_12 : decode cJ0_isEmpty_aae02 12 = .ok (.iconst 0, 1) := by decide +kernel
theorem dJ0_isEmpty_aae02_13 : decode cJ0_isEmpty_aae02 13 = .ok (.ireturn, 1) := by decide +kernel
set_option maxRecDepth 20000 in
theorem ggJ0_charAt_5068e_J0_isLatin1_aae02 : GoodIn wsJ0_charAt_5068e wsJ0_isLatin1_aae02 := goodIn_r _ [6, 7, 8] (by decide +kernel) (by decide +kernel)
set_option maxRecDepth 20000 in
theorem gJ0_charAt_5068e_J0_isLatin1_aae02 : GoodIn wsJ0_charAt_5068e (wsV RJ0 492 RJ0 yJ0_isLatin1_aae02 wsJ0_isLatin1_aae02) := goodIn_app (goodIn_of _ (by decide +kernel)) ggJ0_charAt_5068e_J0_isLatin1_aae02
set_option maxRecDepth 20000 in
theorem ggJ0_charAt_5068e_J1_charAt_3b067 : GoodIn wsJ0_charAt_5068e wsJ1_charAt_3b067 := goodIn_r _ [12, 13, 14, 5, 15, 16, 17, 18, 19, 20] (by decide +kernel) (by decide +kernel)
set_option maxRecDepth 20000 in
theorem gJ0_charAt_5068e_J1_charAt_3b067 : GoodIn wsJ0_charAt_5068e (va_wsS RJ0 495 yJ1_charAt_3b067 wsJ1_charAt_3b067) := goodIn_app (goodIn_of _ (by decide +kernel)) ggJ0_charAt_5068e_J1_charAt_3b067
set_option maxRecDepth 20000 in
theorem ggJ0_charAt_5068e_J2_charAt_3b067 : GoodIn wsJ0_charAt_5068e wsJ2_charAt_3b067 := goodIn_r _ [24, 25, 26, 23, 27, 28, 29, 30, 31, 14, 5, 15, 16, 17, 18, 19, 20, 32, 33, 34, 35, 36, 37] (by decide +kernel) (by decide +kernel)
set_option maxRecDepth 20000 in
theorem gJ0_charAt_5068e_J2_charAt_3b067 : GoodIn wsJ0_charAt_5068e (va_wsS RJ0 498 yJ2_charAt_3b067 wsJ2_charAt_3b067) := goodIn_app (goodIn_of _ (by decide +kernel)) ggJ0_charAt_5068e_J2_charAt_3b067
theorem dJ0_charAt_5068e_0 : decode cJ0_charAt_5068e 0 = .ok (.aload_n 0, 1) := by decide +kernel
theorem dJ0_charAt_5068e_1 : decode cJ0_charAt_5068e 1 = .ok (.invokevirtual 492, 3) := by decide +kernel
theorem dJ0_charAt_5068e_4 : decode cJ0_charAt_5068e 4 = .ok (.ifCond .eq 12, 3) := by decide +kernel
theorem dJ0_charAt_5068e_7 : decode cJ0_charAt_5068e 7 = .ok (.aload_n 0, 1) := by decide +kernel
theorem dJ0_charAt_5068e_8 : decode cJ0_charAt_5068e 8 = .ok (.getfield 9, 3) := by decide +kernel
theorem dJ0_charAt_5068e_11 : decode cJ0_charAt_5068e 11 = .ok (.iload_n 1, 1) := by decide +kernel
theorem dJ0_charAt_5068e_12 : decode cJ0_charAt_5068e 12 = .ok (.invokestatic 495, 3) := by decide +kernel
theorem dJ0_charAt_5068e_15 : decode cJ0_charAt_5068e 15 = .ok (.ireturn, 1) := by decide +kernel
theorem dJ0_charAt_5068e_16 : decode cJ0_charAt_5068e 16 = .ok (.aload_n 0, 1) := by decide +kernel
theorem dJ0_charAt_5068e_17 : decode cJ0_charAt_5068e 17 = .ok (.getfield 9, 3) := by decide +kernel
theorem dJ0_charAt_5068e_20 : decode cJ0_charAt_5068e 20 = .ok (.iload_n 1, 1) := by decide +kernel
theorem dJ0_charAt_5068e_21 : decode cJ0_charAt_5068e 21 = .ok (.invokestatic 498, 3) := by decide +kernel
theorem dJ0_charAt_5068e_24 : decode cJ0_charAt_5068e 24 = .ok (.ireturn, 1) := by decide +kernel
theorem dJ0_coder_7d493_0 : decode cJ0_coder_7d493 0 = .ok (.getstatic 38, 3) := by decide +kernel
theorem dJ0_coder_7d493_3 : decode cJ0_coder_7d493 3 = .ok (.ifCond .eq 10, 3) := by decide +kernel
theorem dJ0_coder_7d493_6 : decode cJ0_coder_7d493 6 = .ok (.aload_n 0, 1) := by decide +kernel
theorem dJ0_coder_7d493_7 : decode cJ0_coder_7d493 7 = .ok (.getfield 15, 3) := by decide +kernel
theorem dJ0_coder_7d493_10 : decode cJ0_coder_7d493 10 = .ok (.goto 4, 3) := by decide +kernel
theorem dJ0_coder_7d493_13 : decode cJ0_coder_7d493 13 = .ok (.iconst 1, 1) := by decide +kernel
theorem dJ0_coder_7d493_14 : decode cJ0_coder_7d493 14 = .ok (.ireturn, 1) := by decide +kernel
theorem dJ0_isLatin1_aae02_0 : decode cJ0_isLatin1_aae02 0 = .ok (.getstatic 38, 3) := by decide +kernel
theorem dJ0_isLatin1_aae02_3 : decode cJ0_isLatin1_aae02 3 = .ok (.ifCond .eq 14, 3) := by decide +kernel
theorem dJ0_isLatin1_aae02_6 : decode cJ0_isLatin1_aae02 6 = .ok (.aload_n 0, 1) := by decide +kernel
theorem dJ0_isLatin1_aae02_7 : decode cJ0_isLatin1_aae02 7 = .ok (.getfield 15, 3) := by decide +kernel
theorem dJ0_isLatin1_aae02_10 : decode cJ0_isLatin1_aae02 10 = .ok (.ifCond .ne 7, 3) := by decide +kernel
theorem dJ0_isLatin1_aae02_13 : decode cJ0_isLatin1_aae02 13 = .ok (.iconst 1, 1) := by decide +kernel
theorem dJ0_isLatin1_aae02_14 : decode cJ0_isLatin1_aae02 14 = .ok (.goto 4, 3) := by decide +kernel
theorem dJ0_isLatin1_aae02_17 : decode cJ0_isLatin1_aae02 17 = .ok (.iconst 0, 1) := by decide +kernel
theorem dJ0_isLatin1_aae02_18 : decode cJ0_isLatin1_aae02 18 = .ok (.ireturn, 1) := by decide +kernel
set_option maxRecDepth 20000 in
theorem ggJ0_checkIndex_df160_J3_checkIndex_8e157 : GoodIn wsJ0_checkIndex_df160 wsJ3_checkIndex_8e157 := goodIn_r _ [5] (by decide +kernel) (by decide +kernel)
set_option maxRecDepth 20000 in
theorem gJ0_checkIndex_df160_J3_checkIndex_8e157 : GoodIn wsJ0_checkIndex_df160 (va_wsS RJ0 1059 yJ3_checkIndex_8e157 wsJ3_checkIndex_8e157) := goodIn_app (goodIn_of _ (by decide +kernel)) ggJ0_checkIndex_df160_J3_checkIndex_8e157
theorem dJ0_checkIndex_df160_0 : decode cJ0_checkIndex_df160 0 = .ok (.iload_n 0, 1) := by decide +kernel
theorem dJ0_checkIndex_df160_1 : decode cJ0_checkIndex_df160 1 = .ok (.iload_n 1, 1) := by decide +kernel
theorem dJ0_checkIndex_df160_2 : decode cJ0_checkIndex_df160 2 = .ok (.getstatic 1053, 3) := by decide +kernel
theorem dJ0_checkIndex_df160_5 : decode cJ0_checkIndex_df160 5 = .ok (.invokestatic 1059, 3) := by decide +kernel
theorem dJ0_checkIndex_df160_8 : decode cJ0_checkIndex_df160 8 = .ok (.pop, 1) := by decide +kernel
theorem dJ0_checkIndex_df160_9 : decode cJ0_checkIndex_df160 9 = .ok (.return_, 1) := by decide +kernel
set_option maxRecDepth 20000 in
theorem ggJ1_charAt_3b067_J0_checkIndex_df160 : GoodIn wsJ1_charAt_3b067 wsJ0_checkIndex_df160 := goodIn_r _ [4, 5, 6, 7, 8, 9] (by decide +kernel) (by decide +kernel)
set_option maxRecDepth 20000 in
theorem gJ1_charAt_3b067_J0_checkIndex_df160 : GoodIn wsJ1_charAt_3b067 (va_wsS RJ1 9 yJ0_checkIndex_df160 wsJ0_checkIndex_df160) := goodIn_app (goodIn_of _ (by decide +kernel)) ggJ1_charAt_3b067_J0_checkIndex_df160
theorem dJ1_charAt_3b067_0 : decode cJ1_charAt_3b067 0 = .ok (.iload_n 1, 1) := by decide +kernel
theorem dJ1_charAt_3b067_1 : decode cJ1_charAt_3b067 1 = .ok (.aload_n 0, 1) := by decide +kernel
theorem dJ1_charAt_3b067_2 : decode cJ1_charAt_3b067 2 = .ok (.arraylength, 1) := by decide +kernel
theorem dJ1_charAt_3b067_3 : decode cJ1_charAt_3b067 3 = .ok (.invokestatic 9, 3) := by decide +kernel
theorem dJ1_charAt_3b067_6 : decode cJ1_charAt_3b067 6 = .ok (.aload_n 0, 1) := by decide +kernel
theorem dJ1_charAt_3b067_7 : decode cJ1_charAt_3b067 7 = .ok (.iload_n 1, 1) := by decide +kernel
theorem dJ1_charAt_3b067_8 : decode cJ1_charAt_3b067 8 = .ok (.baload, 1) := by decide +kernel
theorem dJ1_charAt_3b067_9 : decode cJ1_charAt_3b067 9 = .ok (.sipush 255, 3) := by decide +kernel
theorem dJ1_charAt_3b067_12 : decode cJ1_charAt_3b067 12 = .ok (.iand, 1) := by decide +kernel
theorem dJ1_charAt_3b067_13 : decode cJ1_charAt_3b067 13 = .ok (.i2c, 1) := by decide +kernel
theorem dJ1_charAt_3b067_14 : decode cJ1_charAt_3b067 14 = .ok (.ireturn, 1) := by decide +kernel
set_option maxRecDepth 20000 in
theorem ggJ2_getChar_3b067_J2_length_9d52b : GoodIn wsJ2_getChar_3b067 wsJ2_length_9d52b := goodIn_r _ [7] (by decide +kernel) (by decide +kernel)
set_option maxRecDepth 20000 in
theorem gJ2_getChar_3b067_J2_length_9d52b : GoodIn wsJ2_getChar_3b067 (va_wsS RJ2 48 yJ2_length_9d52b wsJ2_length_9d52b) := goodIn_app (goodIn_of _ (by decide +kernel)) ggJ2_getChar_3b067_J2_length_9d52b
theorem dJ2_getChar_3b067_0 : decode cJ2_getChar_3b067 0 = .ok (.getstatic 44, 3) := by decide +kernel
theorem dJ2_getChar_3b067_3 : decode cJ2_getChar_3b067 3 = .ok (.ifCond .ne 25, 3) := by decide +kernel
theorem dJ2_getChar_3b067_6 : decode cJ2_getChar_3b067 6 = .ok (.iload_n 1, 1) := by decide +kernel
theorem dJ2_getChar_3b067_7 : decode cJ2_getChar_3b067 7 = .ok (.ifCond .lt 11, 3) := by decide +kernel
theorem dJ2_getChar_3b067_10 : decode cJ2_getChar_3b067 10 = .ok (.iload_n 1, 1) := by decide +kernel
theorem dJ2_getChar_3b067_11 : decode cJ2_getChar_3b067 11 = .ok (.aload_n 0, 1) := by decide +kernel
theorem dJ2_getChar_3b067_12 : decode cJ2_getChar_3b067 12 = .ok (.invokestatic 48, 3) := by decide +kernel
theorem dJ2_getChar_3b067_15 : decode cJ2_getChar_3b067 15 = .ok (.if_icmp .lt 13, 3) := by decide +kernel
theorem dJ2_getChar_3b067_18 : decode cJ2_getChar_3b067 18 = .ok (.new 52, 3) := by decide +kernel
theorem dJ2_getChar_3b067_21 : decode cJ2_getChar_3b067 21 = .ok (.dup, 1) := by decide +kernel
theorem dJ2_getChar_3b067_22 : decode cJ2_getChar_3b067 22 = .ok (.ldc 54, 2) := by decide +kernel
theorem dJ2_getChar_3b067_24 : decode cJ2_getChar_3b067 24 = .ok (.invokespecial 56, 3) := by decide +kernel
theorem dJ2_getChar_3b067_27 : decode cJ2_getChar_3b067 27 = .ok (.athrow, 1) := by decide +kernel
theorem dJ2_getChar_3b067_28 : decode cJ2_getChar_3b067 28 = .ok (.iload_n 1, 1) := by decide +kernel
theorem dJ2_getChar_3b067_29 : decode cJ2_getChar_3b067 29 = .ok (.iconst 1, 1) := by decide +kernel
theorem dJ2_getChar_3b067_30 : decode cJ2_getChar_3b067 30 = .ok (.ishl, 1) := by decide +kernel
theorem dJ2_getChar_3b067_31 : decode cJ2_getChar_3b067 31 = .ok (.istore_n 1, 1) := by decide +kernel
theorem dJ2_getChar_3b067_32 : decode cJ2_getChar_3b067 32 = .ok (.aload_n 0, 1) := by decide +kernel
theorem dJ2_getChar_3b067_33 : decode cJ2_getChar_3b067 33 = .ok (.iload_n 1, 1) := by decide +kernel
theorem dJ2_getChar_3b067_34 : decode cJ2_getChar_3b067 34 = .ok (.iinc 1 1, 3) := by decide +kernel
theorem dJ2_getChar_3b067_37 : decode cJ2_getChar_3b067 37 = .ok (.baload, 1) := by decide +kernel
theorem dJ2_getChar_3b067_38 : decode cJ2_getChar_3b067 38 = .ok (.sipush 255, 3) := by decide +kernel
theorem dJ2_getChar_3b067_41 : decode cJ2_getChar_3b067 41 = .ok (.iand, 1) := by decide +kernel
theorem dJ2_getChar_3b067_42 : decode cJ2_getChar_3b067 42 = .ok (.getstatic 59, 3) := by decide +kernel
theorem dJ2_getChar_3b067_45 : decode cJ2_getChar_3b067 45 = .ok (.ishl, 1) := by decide +kernel
theorem dJ2_getChar_3b067_46 : decode cJ2_getChar_3b067 46 = .ok (.aload_n 0, 1) := by decide +kernel
theorem dJ2_getChar_3b067_47 : decode cJ2_getChar_3b067 47 = .ok (.iload_n 1, 1) := by decide +kernel
theorem dJ2_getChar_3b067_48 : decode cJ2_getChar_3b067 48 = .ok (.baload, 1) := by decide +kernel
theorem dJ2_getChar_3b067_49 : decode cJ2_getChar_3b067 49 = .ok (.sipush 255, 3) := by decide +kernel
theorem dJ2_getChar_3b067_52 : decode cJ2_getChar_3b067 52 = .ok (.iand, 1) := by decide +kernel
theorem dJ2_getChar_3b067_53 : decode cJ2_getChar_3b067 53 = .ok (.getstatic 63, 3) := by decide +kernel
theorem dJ2_getChar_3b067_56 : decode cJ2_getChar_3b067 56 = .ok (.ishl, 1) := by decide +kernel
theorem dJ2_getChar_3b067_57 : decode cJ2_getChar_3b067 57 = .ok (.ior, 1) := by decide +kernel
theorem dJ2_getChar_3b067_58 : decode cJ2_getChar_3b067 58 = .ok (.i2c, 1) := by decide +kernel
theorem dJ2_getChar_3b067_59 : decode cJ2_getChar_3b067 59 = .ok (.ireturn, 1) := by decide +kernel
theorem dJ2_length_9d52b_0 : decode cJ2_length_9d52b 0 = .ok (.aload_n 0, 1) := by decide +kernel
theorem dJ2_length_9d52b_1 : decode cJ2_length_9d52b 1 = .ok (.arraylength, 1) := by decide +kernel
theorem dJ2_length_9d52b_2 : decode cJ2_length_9d52b 2 = .ok (.iconst 1, 1) := by decide +kernel
theorem dJ2_length_9d52b_3 : decode cJ2_length_9d52b 3 = .ok (.ishr, 1) := by decide +kernel
theorem dJ2_length_9d52b_4 : decode cJ2_length_9d52b 4 = .ok (.ireturn, 1) := by decide +kernel
set_option maxRecDepth 20000 in
theorem ggJ2_charAt_3b067_J2_checkIndex_2214a : GoodIn wsJ2_charAt_3b067 wsJ2_checkIndex_2214a := goodIn_r _ [4, 5, 6, 3, 7, 8, 9, 10, 11, 12, 13, 14, 15, 16] (by decide +kernel) (by decide +kernel)
set_option maxRecDepth 20000 in
theorem gJ2_charAt_3b067_J2_checkIndex_2214a : GoodIn wsJ2_charAt_3b067 (va_wsS RJ2 67 yJ2_checkIndex_2214a wsJ2_checkIndex_2214a) := goodIn_app (goodIn_of _ (by decide +kernel)) ggJ2_charAt_3b067_J2_checkIndex_2214a
set_option maxRecDepth 20000 in
theorem ggJ2_charAt_3b067_J2_getChar_3b067 : GoodIn wsJ2_charAt_3b067 wsJ2_getChar_3b067 := goodIn_r _ [19, 20, 21, 22, 5, 6, 3, 7] (by decide +kernel) (by decide +kernel)
set_option maxRecDepth 20000 in
theorem gJ2_charAt_3b067_J2_getChar_3b067 : GoodIn wsJ2_charAt_3b067 (va_wsS RJ2 71 yJ2_getChar_3b067 wsJ2_getChar_3b067) := goodIn_app (goodIn_of _ (by decide +kernel)) ggJ2_charAt_3b067_J2_getChar_3b067
theorem dJ2_charAt_3b067_0 : decode cJ2_charAt_3b067 0 = .ok (.iload_n 1, 1) := by decide +kernel
theorem dJ2_charAt_3b067_1 : decode cJ2_charAt_3b067 1 = .ok (.aload_n 0, 1) := by decide +kernel
theorem dJ2_charAt_3b067_2 : decode cJ2_charAt_3b067 2 = .ok (.invokestatic 67, 3) := by decide +kernel
theorem dJ2_charAt_3b067_5 : decode cJ2_charAt_3b067 5 = .ok (.aload_n 0, 1) := by decide +kernel
theorem dJ2_charAt_3b067_6 : decode cJ2_charAt_3b067 6 = .ok (.iload_n 1, 1) := by decide +kernel
theorem dJ2_charAt_3b067_7 : decode cJ2_charAt_3b067 7 = .ok (.invokestatic 71, 3) := by decide +kernel
theorem dJ2_charAt_3b067_10 : decode cJ2_charAt_3b067 10 = .ok (.ireturn, 1) := by decide +kernel
set_option maxRecDepth 20000 in
theorem ggJ2_checkIndex_2214a_J2_length_9d52b : GoodIn wsJ2_checkIndex_2214a wsJ2_length_9d52b := goodIn_r _ [4] (by decide +kernel) (by decide +kernel)
set_option maxRecDepth 20000 in
theorem gJ2_checkIndex_2214a_J2_length_9d52b : GoodIn wsJ2_checkIndex_2214a (va_wsS RJ2 48 yJ2_length_9d52b wsJ2_length_9d52b) := goodIn_app (goodIn_of _ (by decide +kernel)) ggJ2_checkIndex_2214a_J2_length_9d52b
set_option maxRecDepth 20000 in
theorem ggJ2_checkIndex_2214a_J0_checkIndex_df160 : GoodIn wsJ2_checkIndex_2214a wsJ0_checkIndex_df160 := goodIn_r _ [8, 9, 10, 11, 12, 13] (by decide +kernel) (by decide +kernel)
set_option maxRecDepth 20000 in
theorem gJ2_checkIndex_2214a_J0_checkIndex_df160 : GoodIn wsJ2_checkIndex_2214a (va_wsS RJ2 414 yJ0_checkIndex_df160 wsJ0_checkIndex_df160) := goodIn_app (goodIn_of _ (by decide +kernel)) ggJ2_checkIndex_2214a_J0_checkIndex_df160
theorem dJ2_checkIndex_2214a_0 : decode cJ2_checkIndex_2214a 0 = .ok (.iload_n 0, 1) := by decide +kernel
theorem dJ2_checkIndex_2214a_1 : decode cJ2_checkIndex_2214a 1 = .ok (.aload_n 1, 1) := by decide +kernel
theorem dJ2_checkIndex_2214a_2 : decode cJ2_checkIndex_2214a 2 = .ok (.invokestatic 48, 3) := by decide +kernel
theorem dJ2_checkIndex_2214a_5 : decode cJ2_checkIndex_2214a 5 = .ok (.invokestatic 414, 3) := by decide +kernel
theorem dJ2_checkIndex_2214a_8 : decode cJ2_checkIndex_2214a 8 = .ok (.return_, 1) := by decide +kernel
theorem dJ7_fill_d0a16_0 : decode cJ7_fill_d0a16 0 = .ok (.iconst 0, 1) := by decide +kernel
theorem dJ7_fill_d0a16_1 : decode cJ7_fill_d0a16 1 = .ok (.istore_n 3, 1) := by decide +kernel
theorem dJ7_fill_d0a16_2 : decode cJ7_fill_d0a16 2 = .ok (.aload_n 0, 1) := by decide +kernel
theorem dJ7_fill_d0a16_3 : decode cJ7_fill_d0a16 3 = .ok (.arraylength, 1) := by decide +kernel
theorem dJ7_fill_d0a16_4 : decode cJ7_fill_d0a16 4 = .ok (.istore 4, 2) := by decide +kernel
theorem dJ7_fill_d0a16_6 : decode cJ7_fill_d0a16 6 = .ok (.iload_n 3, 1) := by decide +kernel
theorem dJ7_fill_d0a16_7 : decode cJ7_fill_d0a16 7 = .ok (.iload 4, 2) := by decide +kernel
theorem dJ7_fill_d0a16_9 : decode cJ7_fill_d0a16 9 = .ok (.if_icmp .ge 13, 3) := by decide +kernel
theorem dJ7_fill_d0a16_12 : decode cJ7_fill_d0a16 12 = .ok (.aload_n 0, 1) := by decide +kernel
theorem dJ7_fill_d0a16_13 : decode cJ7_fill_d0a16 13 = .ok (.iload_n 3, 1) := by decide +kernel
theorem dJ7_fill_d0a16_14 : decode cJ7_fill_d0a16 14 = .ok (.lload_n 1, 1) := by decide +kernel
theorem dJ7_fill_d0a16_15 : decode cJ7_fill_d0a16 15 = .ok (.lastore, 1) := by decide +kernel
theorem dJ7_fill_d0a16_16 : decode cJ7_fill_d0a16 16 = .ok (.iinc 3 1, 3) := by decide +kernel
theorem dJ7_fill_d0a16_19 : decode cJ7_fill_d0a16 19 = .ok (.goto (-13), 3) := by decide +kernel
theorem dJ7_fill_d0a16_22 : decode cJ7_fill_d0a16 22 = .ok (.return_, 1) := by decide +kernel
theorem dJ7_fill_53178_0 : decode cJ7_fill_53178 0 = .ok (.iconst 0, 1) := by decide +kernel
theorem dJ7_fill_53178_1 : decode cJ7_fill_53178 1 = .ok (.istore_n 2, 1) := by decide +kernel
theorem dJ7_fill_53178_2 : decode cJ7_fill_53178 2 = .ok (.aload_n 0, 1) := by decide +kernel
theorem dJ7_fill_53178_3 : decode cJ7_fill_53178 3 = .ok (.arraylength, 1) := by decide +kernel
theorem dJ7_fill_53178_4 : decode cJ7_fill_53178 4 = .ok (.istore_n 3, 1) := by decide +kernel
theorem dJ7_fill_53178_5 : decode cJ7_fill_53178 5 = .ok (.iload_n 2, 1) := by decide +kernel
theorem dJ7_fill_53178_6 : decode cJ7_fill_53178 6 = .ok (.iload_n 3, 1) := by decide +kernel
theorem dJ7_fill_53178_7 : decode cJ7_fill_53178 7 = .ok (.if_icmp .ge 13, 3) := by decide +kernel
theorem dJ7_fill_53178_10 : decode cJ7_fill_53178 10 = .ok (.aload_n 0, 1) := by decide +kernel
theorem dJ7_fill_53178_11 : decode cJ7_fill_53178 11 = .ok (.iload_n 2, 1) := by decide +kernel
theorem dJ7_fill_53178_12 : decode cJ7_fill_53178 12 = .ok (.iload_n 1, 1) := by decide +kernel
theorem dJ7_fill_53178_13 : decode cJ7_fill_53178 13 = .ok (.iastore, 1) := by decide +kernel
theorem dJ7_fill_53178_14 : decode cJ7_fill_53178 14 = .ok (.iinc 2 1, 3) := by decide +kernel
theorem dJ7_fill_53178_17 : decode cJ7_fill_53178 17 = .ok (.goto (-12), 3) := by decide +kernel
theorem dJ7_fill_53178_20 : decode cJ7_fill_53178 20 = .ok (.return_, 1) := by decide +kernel
theorem dJ3_checkIndex_8e157_0 : decode cJ3_checkIndex_8e157 0 = .ok (.iload_n 0, 1) := by decide +kernel
theorem dJ3_checkIndex_8e157_1 : decode cJ3_checkIndex_8e157 1 = .ok (.ifCond .lt 8, 3) := by decide +kernel
theorem dJ3_checkIndex_8e157_4 : decode cJ3_checkIndex_8e157 4 = .ok (.iload_n 0, 1) := by decide +kernel
theorem dJ3_checkIndex_8e157_5 : decode cJ3_checkIndex_8e157 5 = .ok (.iload_n 1, 1) := by decide +kernel
theorem dJ3_checkIndex_8e157_6 : decode cJ3_checkIndex_8e157 6 = .ok (.if_icmp .lt 10, 3) := by decide +kernel
theorem dJ3_checkIndex_8e157_9 : decode cJ3_checkIndex_8e157 9 = .ok (.aload_n 2, 1) := by decide +kernel
theorem dJ3_checkIndex_8e157_10 : decode cJ3_checkIndex_8e157 10 = .ok (.iload_n 0, 1) := by decide +kernel
theorem dJ3_checkIndex_8e157_11 : decode cJ3_checkIndex_8e157 11 = .ok (.iload_n 1, 1) := by decide +kernel
theorem dJ3_checkIndex_8e157_12 : decode cJ3_checkIndex_8e157 12 = .ok (.invokestatic 95, 3) := by decide +kernel
theorem dJ3_checkIndex_8e157_15 : decode cJ3_checkIndex_8e157 15 = .ok (.athrow, 1) := by decide +kernel
theorem dJ3_checkIndex_8e157_16 : decode cJ3_checkIndex_8e157 16 = .ok (.iload_n 0, 1) := by decide +kernel
theorem dJ3_checkIndex_8e157_17 : decode cJ3_checkIndex_8e157 17 = .ok (.ireturn, 1) := by decide +kernel
abbrev vwCl : List vw_C := [(RX0, TX0, 6), (RX1, TX1, 12), (RX4, TX4, 4), (RX5, TX5, 1), (RX6, TX6, 10), (RX7, TX7, 5), (RX8, TX8, 2), (RX9, TX9, 1), (RX10, TX10, 9), (RX11, TX11, 39)]

