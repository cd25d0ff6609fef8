theorem dX11_begin_25 : decode cX11_begin 25 = .ok (.getfield 78, 3) := by decide +kernel
theorem dX11_begin_28 : decode cX11_begin 28 = .ok (.if_icmp .ge 25, 3) := by decide +kernel
theorem dX11_begin_31 : decode cX11_begin 31 = .ok (.aload_n 0, 1) := by decide +kernel
theorem dX11_begin_32 : decode cX11_begin 32 = .ok (.getfield 25, 3) := by decide +kernel
theorem dX11_begin_35 : decode cX11_begin 35 = .ok (.iload_n 1, 1) := by decide +kernel
theorem dX11_begin_36 : decode cX11_begin 36 = .ok (.aload_n 0, 1) := by decide +kernel
theorem dX11_begin_37 : decode cX11_begin 37 = .ok (.getfield 16, 3) := by decide +kernel
theorem dX11_begin_40 : decode cX11_begin 40 = .ok (.iconst 3, 1) := by decide +kernel
theorem dX11_begin_41 : decode cX11_begin 41 = .ok (.iload_n 1, 1) := by decide +kernel
theorem dX11_begin_42 : decode cX11_begin 42 = .ok (.imul, 1) := by decide +kernel
theorem dX11_begin_43 : decode cX11_begin 43 = .ok (.iconst 1, 1) := by decide +kernel
theorem dX11_begin_44 : decode cX11_begin 44 = .ok (.iadd, 1) := by decide +kernel
theorem dX11_begin_45 : decode cX11_begin 45 = .ok (.iaload, 1) := by decide +kernel
theorem dX11_begin_46 : decode cX11_begin 46 = .ok (.iastore, 1) := by decide +kernel
theorem dX11_begin_47 : decode cX11_begin 47 = .ok (.iinc 1 1, 3) := by decide +kernel
theorem dX11_begin_50 : decode cX11_begin 50 = .ok (.goto (-27), 3) := by decide +kernel
theorem dX11_begin_53 : decode cX11_begin 53 = .ok (.aload_n 0, 1) := by decide +kernel
theorem dX11_begin_54 : decode cX11_begin 54 = .ok (.getfield 31, 3) := by decide +kernel
theorem dX11_begin_57 : decode cX11_begin 57 = .ok (.iconst 0, 1) := by decide +kernel
theorem dX11_begin_58 : decode cX11_begin 58 = .ok (.iconst 0, 1) := by decide +kernel
theorem dX11_begin_59 : decode cX11_begin 59 = .ok (.bastore, 1) := by decide +kernel
theorem dX11_begin_60 : decode cX11_begin 60 = .ok (.aload_n 0, 1) := by decide +kernel
theorem dX11_begin_61 : decode cX11_begin 61 = .ok (.getfield 31, 3) := by decide +kernel
theorem dX11_begin_64 : decode cX11_begin 64 = .ok (.iconst 1, 1) := by decide +kernel
theorem dX11_begin_65 : decode cX11_begin 65 = .ok (.iconst 0, 1) := by decide +kernel
theorem dX11_begin_66 : decode cX11_begin 66 = .ok (.bastore, 1) := by decide +kernel
theorem dX11_begin_67 : decode cX11_begin 67 = .ok (.aload_n 0, 1) := by decide +kernel
theorem dX11_begin_68 : decode cX11_begin 68 = .ok (.iconst 0, 1) := by decide +kernel
theorem dX11_begin_69 : decode cX11_begin 69 = .ok (.putfield 82, 3) := by decide +kernel
theorem dX11_begin_72 : decode cX11_begin 72 = .ok (.aload_n 0, 1) := by decide +kernel
theorem dX11_begin_73 : decode cX11_begin 73 = .ok (.iconst 0, 1) := by decide +kernel
theorem dX11_begin_74 : decode cX11_begin 74 = .ok (.putfield 85, 3) := by decide +kernel
theorem dX11_begin_77 : decode cX11_begin 77 = .ok (.aload_n 0, 1) := by decide +kernel
theorem dX11_begin_78 : decode cX11_begin 78 = .ok (.iconst 0, 1) := by decide +kernel
theorem dX11_begin_79 : decode cX11_begin 79 = .ok (.putfield 88, 3) := by decide +kernel
theorem dX11_begin_82 : decode cX11_begin 82 = .ok (.return_, 1) := by decide +kernel
set_option maxRecDepth 20000 in
theorem ggX11_isPlace_X11_in : GoodIn wsX11_isPlace wsX11_in := goodIn_r _ [5] (by decide +kernel) (by decide +kernel)
set_option maxRecDepth 20000 in
theorem gX11_isPlace_X11_in : GoodIn wsX11_isPlace (va_wsS RX11 94 yX11_in wsX11_in) := goodIn_app (goodIn_of _ (by decide +kernel)) ggX11_isPlace_X11_in
theorem dX11_isPlace_0 : decode cX11_isPlace 0 = .ok (.iload_n 1, 1) := by decide +kernel
theorem dX11_isPlace_1 : decode cX11_isPlace 1 = .ok (.iconst 0, 1) := by decide +kernel
theorem dX11_isPlace_2 : decode cX11_isPlace 2 = .ok (.aload_n 0, 1) := by decide +kernel
theorem dX11_isPlace_3 : decode cX11_isPlace 3 = .ok (.getfield 91, 3) := by decide +kernel
theorem dX11_isPlace_6 : decode cX11_isPlace 6 = .ok (.iconst 1, 1) := by decide +kernel
theorem dX11_isPlace_7 : decode cX11_isPlace 7 = .ok (.isub, 1) := by decide +kernel
theorem dX11_isPlace_8 : decode cX11_isPlace 8 = .ok (.invokestatic 94, 3) := by decide +kernel
theorem dX11_isPlace_11 : decode cX11_isPlace 11 = .ok (.ireturn, 1) := by decide +kernel
set_option maxRecDepth 20000 in
theorem ggX11_isRoad_X11_in : GoodIn wsX11_isRoad wsX11_in := goodIn_r _ [5] (by decide +kernel) (by decide +kernel)
set_option maxRecDepth 20000 in
theorem gX11_isRoad_X11_in : GoodIn wsX11_isRoad (va_wsS RX11 94 yX11_in wsX11_in) := goodIn_app (goodIn_of _ (by decide +kernel)) ggX11_isRoad_X11_in
theorem dX11_isRoad_0 : decode cX11_isRoad 0 = .ok (.iload_n 1, 1) := by decide +kernel
theorem dX11_isRoad_1 : decode cX11_isRoad 1 = .ok (.iconst 0, 1) := by decide +kernel
theorem dX11_isRoad_2 : decode cX11_isRoad 2 = .ok (.aload_n 0, 1) := by decide +kernel
theorem dX11_isRoad_3 : decode cX11_isRoad 3 = .ok (.getfield 98, 3) := by decide +kernel
theorem dX11_isRoad_6 : decode cX11_isRoad 6 = .ok (.iconst 1, 1) := by decide +kernel
theorem dX11_isRoad_7 : decode cX11_isRoad 7 = .ok (.isub, 1) := by decide +kernel
theorem dX11_isRoad_8 : decode cX11_isRoad 8 = .ok (.invokestatic 94, 3) := by decide +kernel
theorem dX11_isRoad_11 : decode cX11_isRoad 11 = .ok (.ireturn, 1) := by decide +kernel
set_option maxRecDepth 20000 in
theorem ggX11_isCart_X11_in : GoodIn wsX11_isCart wsX11_in := goodIn_r _ [5] (by decide +kernel) (by decide +kernel)
set_option maxRecDepth 20000 in
theorem gX11_isCart_X11_in : GoodIn wsX11_isCart (va_wsS RX11 94 yX11_in wsX11_in) := goodIn_app (goodIn_of _ (by decide +kernel)) ggX11_isCart_X11_in
theorem dX11_isCart_0 : decode cX11_isCart 0 = .ok (.iload_n 1, 1) := by decide +kernel
theorem dX11_isCart_1 : decode cX11_isCart 1 = .ok (.iconst 0, 1) := by decide +kernel
theorem dX11_isCart_2 : decode cX11_isCart 2 = .ok (.aload_n 0, 1) := by decide +kernel
theorem dX11_isCart_3 : decode cX11_isCart 3 = .ok (.getfield 78, 3) := by decide +kernel
theorem dX11_isCart_6 : decode cX11_isCart 6 = .ok (.iconst 1, 1) := by decide +kernel
theorem dX11_isCart_7 : decode cX11_isCart 7 = .ok (.isub, 1) := by decide +kernel
theorem dX11_isCart_8 : decode cX11_isCart 8 = .ok (.invokestatic 94, 3) := by decide +kernel
theorem dX11_isCart_11 : decode cX11_isCart 11 = .ok (.ireturn, 1) := by decide +kernel
set_option maxRecDepth 20000 in
theorem ggX11_write_X11_in : GoodIn wsX11_write wsX11_in := goodIn_r _ [6] (by decide +kernel) (by decide +kernel)
set_option maxRecDepth 20000 in
theorem gX11_write_X11_in : GoodIn wsX11_write (va_wsS RX11 94 yX11_in wsX11_in) := goodIn_app (goodIn_of _ (by decide +kernel)) ggX11_write_X11_in
theorem dX11_write_0 : decode cX11_write 0 = .ok (.iload_n 1, 1) := by decide +kernel
theorem dX11_write_1 : decode cX11_write 1 = .ok (.iconst 0, 1) := by decide +kernel
theorem dX11_write_2 : decode cX11_write 2 = .ok (.sipush 255, 3) := by decide +kernel
theorem dX11_write_5 : decode cX11_write 5 = .ok (.invokestatic 94, 3) := by decide +kernel
theorem dX11_write_8 : decode cX11_write 8 = .ok (.ifCond .ne 6, 3) := by decide +kernel
theorem dX11_write_11 : decode cX11_write 11 = .ok (.bipush (-3), 2) := by decide +kernel
theorem dX11_write_13 : decode cX11_write 13 = .ok (.ireturn, 1) := by decide +kernel
theorem dX11_write_14 : decode cX11_write 14 = .ok (.aload_n 0, 1) := by decide +kernel
theorem dX11_write_15 : decode cX11_write 15 = .ok (.getfield 101, 3) := by decide +kernel
theorem dX11_write_18 : decode cX11_write 18 = .ok (.sipush 160, 3) := by decide +kernel
theorem dX11_write_21 : decode cX11_write 21 = .ok (.if_icmp .ne 6, 3) := by decide +kernel
theorem dX11_write_24 : decode cX11_write 24 = .ok (.bipush (-5), 2) := by decide +kernel
theorem dX11_write_26 : decode cX11_write 26 = .ok (.ireturn, 1) := by decide +kernel
theorem dX11_write_27 : decode cX11_write 27 = .ok (.aload_n 0, 1) := by decide +kernel
theorem dX11_write_28 : decode cX11_write 28 = .ok (.getfield 19, 3) := by decide +kernel
theorem dX11_write_31 : decode cX11_write 31 = .ok (.aload_n 0, 1) := by decide +kernel
theorem dX11_write_32 : decode cX11_write 32 = .ok (.getfield 101, 3) := by decide +kernel
theorem dX11_write_35 : decode cX11_write 35 = .ok (.iload_n 1, 1) := by decide +kernel
theorem dX11_write_36 : decode cX11_write 36 = .ok (.iastore, 1) := by decide +kernel
theorem dX11_write_37 : decode cX11_write 37 = .ok (.aload_n 0, 1) := by decide +kernel
theorem dX11_write_38 : decode cX11_write 38 = .ok (.dup, 1) := by decide +kernel
theorem dX11_write_39 : decode cX11_write 39 = .ok (.getfield 101, 3) := by decide +kernel
theorem dX11_write_42 : decode cX11_write 42 = .ok (.iconst 1, 1) := by decide +kernel
theorem dX11_write_43 : decode cX11_write 43 = .ok (.iadd, 1) := by decide +kernel
theorem dX11_write_44 : decode cX11_write 44 = .ok (.putfield 101, 3) := by decide +kernel
theorem dX11_write_47 : decode cX11_write 47 = .ok (.aload_n 0, 1) := by decide +kernel
theorem dX11_write_48 : decode cX11_write 48 = .ok (.getfield 101, 3) := by decide +kernel
theorem dX11_write_51 : decode cX11_write 51 = .ok (.ireturn, 1) := by decide +kernel
theorem dX11_erase_0 : decode cX11_erase 0 = .ok (.aload_n 0, 1) := by decide +kernel
theorem dX11_erase_1 : decode cX11_erase 1 = .ok (.getfield 101, 3) := by decide +kernel
theorem dX11_erase_4 : decode cX11_erase 4 = .ok (.istore_n 1, 1) := by decide +kernel
theorem dX11_erase_5 : decode cX11_erase 5 = .ok (.aload_n 0, 1) := by decide +kernel
theorem dX11_erase_6 : decode cX11_erase 6 = .ok (.iconst 0, 1) := by decide +kernel
theorem dX11_erase_7 : decode cX11_erase 7 = .ok (.putfield 101, 3) := by decide +kernel
theorem dX11_erase_10 : decode cX11_erase 10 = .ok (.iload_n 1, 1) := by decide +kernel
theorem dX11_erase_11 : decode cX11_erase 11 = .ok (.ireturn, 1) := by decide +kernel
set_option maxRecDepth 20000 in
theorem ggX11_nextToken_X11_in : GoodIn wsX11_nextToken wsX11_in := goodIn_r _ [17] (by decide +kernel) (by decide +kernel)
set_option maxRecDepth 20000 in
theorem gX11_nextToken_X11_in : GoodIn wsX11_nextToken (va_wsS RX11 94 yX11_in wsX11_in) := goodIn_app (goodIn_of _ (by decide +kernel)) ggX11_nextToken_X11_in
theorem dX11_nextToken_0 : decode cX11_nextToken 0 = .ok (.aload_n 0, 1) := by decide +kernel
theorem dX11_nextToken_1 : decode cX11_nextToken 1 = .ok (.getfield 104, 3) := by decide +kernel
theorem dX11_nextToken_4 : decode cX11_nextToken 4 = .ok (.aload_n 0, 1) := by decide +kernel
theorem dX11_nextToken_5 : decode cX11_nextToken 5 = .ok (.getfield 101, 3) := by decide +kernel
theorem dX11_nextToken_8 : decode cX11_nextToken 8 = .ok (.if_icmp .ge 30, 3) := by decide +kernel
theorem dX11_nextToken_11 : decode cX11_nextToken 11 = .ok (.aload_n 0, 1) := by decide +kernel
theorem dX11_nextToken_12 : decode cX11_nextToken 12 = .ok (.getfield 19, 3) := by decide +kernel
theorem dX11_nextToken_15 : decode cX11_nextToken 15 = .ok (.aload_n 0, 1) := by decide +kernel
theorem dX11_nextToken_16 : decode cX11_nextToken 16 = .ok (.getfield 104, 3) := by decide +kernel
theorem dX11_nextToken_19 : decode cX11_nextToken 19 = .ok (.iaload, 1) := by decide +kernel
theorem dX11_nextToken_20 : decode cX11_nextToken 20 = .ok (.bipush 32, 2) := by decide +kernel
theorem dX11_nextToken_22 : decode cX11_nextToken 22 = .ok (.if_icmp .ne 16, 3) := by decide +kernel
theorem dX11_nextToken_25 : decode cX11_nextToken 25 = .ok (.aload_n 0, 1) := by decide +kernel
theorem dX11_nextToken_26 : decode cX11_nextToken 26 = .ok (.dup, 1) := by decide +kernel
theorem dX11_nextToken_27 : decode cX11_nextToken 27 = .ok (.getfield 104, 3) := by decide +kernel
theorem dX11_nextToken_30 : decode cX11_nextToken 30 = .ok (.iconst 1, 1) := by decide +kernel
theorem dX11_nextToken_31 : decode cX11_nextToken 31 = .ok (.iadd, 1) := by decide +kernel
theorem dX11_nextToken_32 : decode cX11_nextToken 32 = .ok (.putfield 104, 3) := by decide +kernel
theorem dX11_nextToken_35 : decode cX11_nextToken 35 = .ok (.goto (-35), 3) := by decide +kernel
theorem dX11_nextToken_38 : decode cX11_nextToken 38 = .ok (.aload_n 0, 1) := by decide +kernel
theorem dX11_nextToken_39 : decode cX11_nextToken 39 = .ok (.aload_n 0, 1) := by decide +kernel
theorem dX11_nextToken_40 : decode cX11_nextToken 40 = .ok (.getfield 104, 3) := by decide +kernel
theorem dX11_nextToken_43 : decode cX11_nextToken 43 = .ok (.putfield 107, 3) := by decide +kernel
theorem dX11_nextToken_46 : decode cX11_nextToken 46 = .ok (.aload_n 0, 1) := by decide +kernel
theorem dX11_nextToken_47 : decode cX11_nextToken 47 = .ok (.iconst 0, 1) := by decide +kernel
theorem dX11_nextToken_48 : decode cX11_nextToken 48 = .ok (.putfield 110, 3) := by decide +kernel
theorem dX11_nextToken_51 : decode cX11_nextToken 51 = .ok (.aload_n 0, 1) := by decide +kernel
theorem dX11_nextToken_52 : decode cX11_nextToken 52 = .ok (.iconst 0, 1) := by decide +kernel
theorem dX11_nextToken_53 : decode cX11_nextToken 53 = .ok (.putfield 113, 3) := by decide +kernel
theorem dX11_nextToken_56 : decode cX11_nextToken 56 = .ok (.aload_n 0, 1) := by decide +kernel
theorem dX11_nextToken_57 : decode cX11_nextToken 57 = .ok (.getfield 104, 3) := by decide +kernel
theorem dX11_nextToken_60 : decode cX11_nextToken 60 = .ok (.aload_n 0, 1) := by decide +kernel
theorem dX11_nextToken_61 : decode cX11_nextToken 61 = .ok (.getfield 101, 3) := by decide +kernel
theorem dX11_nextToken_64 : decode cX11_nextToken 64 = .ok (.if_icmp .ne 13, 3) := by decide +kernel
theorem dX11_nextToken_67 : decode cX11_nextToken 67 = .ok (.aload_n 0, 1) := by decide +kernel
theorem dX11_nextToken_68 : decode cX11_nextToken 68 = .ok (.ldc2_w 116, 3) := by decide +kernel
theorem dX11_nextToken_71 : decode cX11_nextToken 71 = .ok (.putfield 118, 3) := by decide +kernel
theorem dX11_nextToken_74 : decode cX11_nextToken 74 = .ok (.goto 320, 3) := by decide +kernel
theorem dX11_nextToken_77 : decode cX11_nextToken 77 = .ok (.aload_n 0, 1) := by decide +kernel
theorem dX11_nextToken_78 : decode cX11_nextToken 78 = .ok (.getfield 19, 3) := by decide +kernel
theorem dX11_nextToken_81 : decode cX11_nextToken 81 = .ok (.aload_n 0, 1) := by decide +kernel
theorem dX11_nextToken_82 : decode cX11_nextToken 82 = .ok (.getfield 104, 3) := by decide +kernel
theorem dX11_nextToken_85 : decode cX11_nextToken 85 = .ok (.iaload, 1) := by decide +kernel
theorem dX11_nextToken_86 : decode cX11_nextToken 86 = .ok (.bipush 97, 2) := by decide +kernel
theorem dX11_nextToken_88 : decode cX11_nextToken 88 = .ok (.bipush 122, 2) := by decide +kernel
theorem dX11_nextToken_90 : decode cX11_nextToken 90 = .ok (.invokestatic 94, 3) := by decide +kernel
theorem dX11_nextToken_93 : decode cX11_nextToken 93 = .ok (.ifCond .eq 129, 3) := by decide +kernel
theorem dX11_nextToken_96 : decode cX11_nextToken 96 = .ok (.aload_n 0, 1) := by decide +kernel
theorem dX11_nextToken_97 : decode cX11_nextToken 97 = .ok (.lconst 0, 1) := by decide +kernel
theorem dX11_nextToken_98 : decode cX11_nextToken 98 = .ok (.putfield 118, 3) := by decide +kernel
theorem dX11_nextToken_101 : decode cX11_nextToken 101 = .ok (.aload_n 0, 1) := by decide +kernel
theorem dX11_nextToken_102 : decode cX11_nextToken 102 = .ok (.getfield 104, 3) := by decide +kernel
theorem dX11_nextToken_105 : decode cX11_nextToken 105 = .ok (.aload_n 0, 1) := by decide +kernel
theorem dX11_nextToken_106 : decode cX11_nextToken 106 = .ok (.getfield 101, 3) := by decide +kernel
theorem dX11_nextToken_109 : decode cX11_nextToken 109 = .ok (.if_icmp .ge 82, 3) := by decide +kernel
theorem dX11_nextToken_112 : decode cX11_nextToken 112 = .ok (.aload_n 0, 1) := by decide +kernel
theorem dX11_nextToken_113 : decode cX11_nextToken 113 = .ok (.getfield 19, 3) := by decide +kernel
theorem dX11_nextToken_116 : decode cX11_nextToken 116 = .ok (.aload_n 0, 1) := by decide +kernel
theorem dX11_nextToken_117 : decode cX11_nextToken 117 = .ok (.getfield 104, 3) := by decide +kernel
theorem dX11_nextToken_120 : decode cX11_nextToken 120 = .ok (.iaload, 1) := by decide +kernel
theorem dX11_nextToken_121 : decode cX11_nextToken 121 = .ok (.bipush 97, 2) := by decide +kernel
theorem dX11_nextToken_123 : decode cX11_nextToken 123 = .ok (.bipush 122, 2) := by decide +kernel
theorem dX11_nextToken_125 : decode cX11_nextToken 125 = .ok (.invokestatic 94, 3) := by decide +kernel
theorem dX11_nextToken_128 : decode cX11_nextToken 128 = .ok (.ifCond .eq 63, 3) := by decide +kernel
theorem dX11_nextToken_131 : decode cX11_nextToken 131 = .ok (.aload_n 0, 1) := by decide +kernel
theorem dX11_nextToken_132 : decode cX11_nextToken 132 = .ok (.aload_n 0, 1) := by decide +kernel
theorem dX11_nextToken_133 : decode cX11_nextToken 133 = .ok (.getfield 104, 3) := by decide +kernel
theorem dX11_nextToken_136 : decode cX11_nextToken 136 = .ok (.aload_n 0, 1) := by decide +kernel
theorem dX11_nextToken_137 : decode cX11_nextToken 137 = .ok (.getfield 107, 3) := by decide +kernel
theorem dX11_nextToken_140 : decode cX11_nextToken 140 = .ok (.isub, 1) := by decide +kernel
theorem dX11_nextToken_141 : decode cX11_nextToken 141 = .ok (.bipush 9, 2) := by decide +kernel
theorem dX11_nextToken_143 : decode cX11_nextToken 143 = .ok (.if_icmp .ge 29, 3) := by decide +kernel
theorem dX11_nextToken_146 : decode cX11_nextToken 146 = .ok (.ldc2_w 122, 3) := by decide +kernel
theorem dX11_nextToken_149 : decode cX11_nextToken 149 = .ok (.aload_n 0, 1) := by decide +kernel
theorem dX11_nextToken_150 : decode cX11_nextToken 150 = .ok (.getfield 118, 3) := by decide +kernel
theorem dX11_nextToken_153 : decode cX11_nextToken 153 = .ok (.lmul, 1) := by decide +kernel
theorem dX11_nextToken_154 : decode cX11_nextToken 154 = .ok (.aload_n 0, 1) := by decide +kernel
theorem dX11_nextToken_155 : decode cX11_nextToken 155 = .ok (.getfield 19, 3) := by decide +kernel
theorem dX11_nextToken_158 : decode cX11_nextToken 158 = .ok (.aload_n 0, 1) := by decide +kernel
theorem dX11_nextToken_159 : decode cX11_nextToken 159 = .ok (.getfield 104, 3) := by decide +kernel
theorem dX11_nextToken_162 : decode cX11_nextToken 162 = .ok (.iaload, 1) := by decide +kernel
theorem dX11_nextToken_163 : decode cX11_nextToken 163 = .ok (.i2l, 1) := by decide +kernel
theorem dX11_nextToken_164 : decode cX11_nextToken 164 = .ok (.ladd, 1) := by decide +kernel
theorem dX11_nextToken_165 : decode cX11_nextToken 165 = .ok (.ldc2_w 124, 3) := by decide +kernel
theorem dX11_nextToken_168 : decode cX11_nextToken 168 = .ok (.lsub, 1) := by decide +kernel
theorem dX11_nextToken_169 : decode cX11_nextToken 169 = .ok (.goto 6, 3) := by decide +kernel
theorem dX11_nextToken_172 : decode cX11_nextToken 172 = .ok (.ldc2_w 126, 3) := by decide +kernel
theorem dX11_nextToken_175 : decode cX11_nextToken 175 = .ok (.putfield 118, 3) := by decide +kernel
theorem dX11_nextToken_178 : decode cX11_nextToken 178 = .ok (.aload_n 0, 1) := by decide +kernel
theorem dX11_nextToken_179 : decode cX11_nextToken 179 = .ok (.dup, 1) := by decide +kernel
theorem dX11_nextToken_180 : decode cX11_nextToken 180 = .ok (.getfield 104, 3) := by decide +kernel
theorem dX11_nextToken_183 : decode cX11_nextToken 183 = .ok (.iconst 1, 1) := by decide +kernel
theorem dX11_nextToken_184 : decode cX11_nextToken 184 = .ok (.iadd, 1) := by decide +kernel
theorem dX11_nextToken_185 : decode cX11_nextToken 185 = .ok (.putfield 104, 3) := by decide +kernel
theorem dX11_nextToken_188 : decode cX11_nextToken 188 = .ok (.goto (-87), 3) := by decide +kernel
theorem dX11_nextToken_191 : decode cX11_nextToken 191 = .ok (.aload_n 0, 1) := by decide +kernel
theorem dX11_nextToken_192 : decode cX11_nextToken 192 = .ok (.aload_n 0, 1) := by decide +kernel
theorem dX11_nextToken_193 : decode cX11_nextToken 193 = .ok (.getfield 104, 3) := by decide +kernel
theorem dX11_nextToken_196 : decode cX11_nextToken 196 = .ok (.aload_n 0, 1) := by decide +kernel
theorem dX11_nextToken_197 : decode cX11_nextToken 197 = .ok (.getfield 107, 3) := by decide +kernel
theorem dX11_nextToken_200 : decode cX11_nextToken 200 = .ok (.isub, 1) := by decide +kernel
theorem dX11_nextToken_201 : decode cX11_nextToken 201 = .ok (.bipush 9, 2) := by decide +kernel
theorem dX11_nextToken_203 : decode cX11_nextToken 203 = .ok (.if_icmp .le 9, 3) := by decide +kernel
theorem dX11_nextToken_206 : decode cX11_nextToken 206 = .ok (.ldc2_w 126, 3) := by decide +kernel
theorem dX11_nextToken_209 : decode cX11_nextToken 209 = .ok (.goto 7, 3) := by decide +kernel
theorem dX11_nextToken_212 : decode cX11_nextToken 212 = .ok (.aload_n 0, 1) := by decide +kernel
theorem dX11_nextToken_213 : decode cX11_nextToken 213 = .ok (.getfield 118, 3) := by decide +kernel
theorem dX11_nextToken_216 : decode cX11_nextToken 216 = .ok (.putfield 118, 3) := by decide +kernel
theorem dX11_nextToken_219 : decode cX11_nextToken 219 = .ok (.goto 175, 3) := by decide +kernel
theorem dX11_nextToken_222 : decode cX11_nextToken 222 = .ok (.aload_n 0, 1) := by decide +kernel
theorem dX11_nextToken_223 : decode cX11_nextToken 223 = .ok (.getfield 19, 3) := by decide +kernel
theorem dX11_nextToken_226 : decode cX11_nextToken 226 = .ok (.aload_n 0, 1) := by decide +kernel
theorem dX11_nextToken_227 : decode cX11_nextToken 227 = .ok (.getfield 104, 3) := by decide +kernel
theorem dX11_nextToken_230 : decode cX11_nextToken 230 = .ok (.iaload, 1) := by decide +kernel
theorem dX11_nextToken_231 : decode cX11_nextToken 231 = .ok (.bipush 48, 2) := by decide +kernel
theorem dX11_nextToken_233 : decode cX11_nextToken 233 = .ok (.bipush 57, 2) := by decide +kernel
theorem dX11_nextToken_235 : decode cX11_nextToken 235 = .ok (.invokestatic 94, 3) := by decide +kernel
theorem dX11_nextToken_238 : decode cX11_nextToken 238 = .ok (.ifCond .eq 119, 3) := by decide +kernel
theorem dX11_nextToken_241 : decode cX11_nextToken 241 = .ok (.aload_n 0, 1) := by decide +kernel
theorem dX11_nextToken_242 : decode cX11_nextToken 242 = .ok (.getfield 104, 3) := by decide +kernel
theorem dX11_nextToken_245 : decode cX11_nextToken 245 = .ok (.aload_n 0, 1) := by decide +kernel
theorem dX11_nextToken_246 : decode cX11_nextToken 246 = .ok (.getfield 101, 3) := by decide +kernel
theorem dX11_nextToken_249 : decode cX11_nextToken 249 = .ok (.if_icmp .ge 84, 3) := by decide +kernel
theorem dX11_nextToken_252 : decode cX11_nextToken 252 = .ok (.aload_n 0, 1) := by decide +kernel
theorem dX11_nextToken_253 : decode cX11_nextToken 253 = .ok (.getfield 19, 3) := by decide +kernel
theorem dX11_nextToken_256 : decode cX11_nextToken 256 = .ok (.aload_n 0, 1) := by decide +kernel
theorem dX11_nextToken_257 : decode cX11_nextToken 257 = .ok (.getfield 104, 3) := by decide +kernel
theorem dX11_nextToken_260 : decode cX11_nextToken 260 = .ok (.iaload, 1) := by decide +kernel
theorem dX11_nextToken_261 : decode cX11_nextToken 261 = .ok (.bipush 48, 2) := by decide +kernel
theorem dX11_nextToken_263 : decode cX11_nextToken 263 = .ok (.bipush 57, 2) := by decide +kernel
theorem dX11_nextToken_265 : decode cX11_nextToken 265 = .ok (.invokestatic 94, 3) := by decide +kernel
theorem dX11_nextToken_268 : decode cX11_nextToken 268 = .ok (.ifCond .eq 65, 3) := by decide +kernel
theorem dX11_nextToken_271 : decode cX11_nextToken 271 = .ok (.aload_n 0, 1) := by decide +kernel
theorem dX11_nextToken_272 : decode cX11_nextToken 272 = .ok (.aload_n 0, 1) := by decide +kernel
theorem dX11_nextToken_273 : decode cX11_nextToken 273 = .ok (.getfield 110, 3) := by decide +kernel
theorem dX11_nextToken_276 : decode cX11_nextToken 276 = .ok (.iconst 2, 1) := by decide +kernel
theorem dX11_nextToken_277 : decode cX11_nextToken 277 = .ok (.if_icmp .ge 26, 3) := by decide +kernel
theorem dX11_nextToken_280 : decode cX11_nextToken 280 = .ok (.bipush 10, 2) := by decide +kernel
theorem dX11_nextToken_282 : decode cX11_nextToken 282 = .ok (.aload_n 0, 1) := by decide +kernel
theorem dX11_nextToken_283 : decode cX11_nextToken 283 = .ok (.getfield 113, 3) := by decide +kernel
theorem dX11_nextToken_286 : decode cX11_nextToken 286 = .ok (.imul, 1) := by decide +kernel
theorem dX11_nextToken_287 : decode cX11_nextToken 287 = .ok (.aload_n 0, 1) := by decide +kernel
theorem dX11_nextToken_288 : decode cX11_nextToken 288 = .ok (.getfield 19, 3) := by decide +kernel
theorem dX11_nextToken_291 : decode cX11_nextToken 291 = .ok (.aload_n 0, 1) := by decide +kernel
theorem dX11_nextToken_292 : decode cX11_nextToken 292 = .ok (.getfield 104, 3) := by decide +kernel
theorem dX11_nextToken_295 : decode cX11_nextToken 295 = .ok (.iaload, 1) := by decide +kernel
theorem dX11_nextToken_296 : decode cX11_nextToken 296 = .ok (.iadd, 1) := by decide +kernel
theorem dX11_nextToken_297 : decode cX11_nextToken 297 = .ok (.bipush 48, 2) := by decide +kernel
theorem dX11_nextToken_299 : decode cX11_nextToken 299 = .ok (.isub, 1) := by decide +kernel
theorem dX11_nextToken_300 : decode cX11_nextToken 300 = .ok (.goto 7, 3) := by decide +kernel
theorem dX11_nextToken_303 : decode cX11_nextToken 303 = .ok (.aload_n 0, 1) := by decide +kernel
theorem dX11_nextToken_304 : decode cX11_nextToken 304 = .ok (.getfield 113, 3) := by decide +kernel
theorem dX11_nextToken_307 : decode cX11_nextToken 307 = .ok (.putfield 113, 3) := by decide +kernel
theorem dX11_nextToken_310 : decode cX11_nextToken 310 = .ok (.aload_n 0, 1) := by decide +kernel
theorem dX11_nextToken_311 : decode cX11_nextToken 311 = .ok (.dup, 1) := by decide +kernel
theorem dX11_nextToken_312 : decode cX11_nextToken 312 = .ok (.getfield 110, 3) := by decide +kernel
theorem dX11_nextToken_315 : decode cX11_nextToken 315 = .ok (.iconst 1, 1) := by decide +kernel
theorem dX11_nextToken_316 : decode cX11_nextToken 316 = .ok (.iadd, 1) := by decide +kernel
theorem dX11_nextToken_317 : decode cX11_nextToken 317 = .ok (.putfield 110, 3) := by decide +kernel
theorem dX11_nextToken_320 : decode cX11_nextToken 320 = .ok (.aload_n 0, 1) := by decide +kernel
theorem dX11_nextToken_321 : decode cX11_nextToken 321 = .ok (.dup, 1) := by decide +kernel
theorem dX11_nextToken_322 : decode cX11_nextToken 322 = .ok (.getfield 104, 3) := by decide +kernel
theorem dX11_nextToken_325 : decode cX11_nextToken 325 = .ok (.iconst 1, 1) := by decide +kernel
theorem dX11_nextToken_326 : decode cX11_nextToken 326 = .ok (.iadd, 1) := by decide +kernel
theorem dX11_nextToken_327 : decode cX11_nextToken 327 = .ok (.putfield 104, 3) := by decide +kernel
theorem dX11_nextToken_330 : decode cX11_nextToken 330 = .ok (.goto (-89), 3) := by decide +kernel
theorem dX11_nextToken_333 : decode cX11_nextToken 333 = .ok (.aload_n 0, 1) := by decide +kernel
theorem dX11_nextToken_334 : decode cX11_nextToken 334 = .ok (.aload_n 0, 1) := by decide +kernel
theorem dX11_nextToken_335 : decode cX11_nextToken 335 = .ok (.getfield 110, 3) := by decide +kernel
theorem dX11_nextToken_338 : decode cX11_nextToken 338 = .ok (.iconst 2, 1) := by decide +kernel
theorem dX11_nextToken_339 : decode cX11_nextToken 339 = .ok (.if_icmp .le 9, 3) := by decide +kernel
theorem dX11_nextToken_342 : decode cX11_nextToken 342 = .ok (.ldc2_w 126, 3) := by decide +kernel
theorem dX11_nextToken_345 : decode cX11_nextToken 345 = .ok (.goto 6, 3) := by decide +kernel
theorem dX11_nextToken_348 : decode cX11_nextToken 348 = .ok (.ldc2_w 128, 3) := by decide +kernel
theorem dX11_nextToken_351 : decode cX11_nextToken 351 = .ok (.putfield 118, 3) := by decide +kernel
theorem dX11_nextToken_354 : decode cX11_nextToken 354 = .ok (.goto 40, 3) := by decide +kernel
theorem dX11_nextToken_357 : decode cX11_nextToken 357 = .ok (.aload_n 0, 1) := by decide +kernel
theorem dX11_nextToken_358 : decode cX11_nextToken 358 = .ok (.aload_n 0, 1) := by decide +kernel
theorem dX11_nextToken_359 : decode cX11_nextToken 359 = .ok (.getfield 19, 3) := by decide +kernel
theorem dX11_nextToken_362 : decode cX11_nextToken 362 = .ok (.aload_n 0, 1) := by decide +kernel
theorem dX11_nextToken_363 : decode cX11_nextToken 363 = .ok (.getfield 104, 3) := by decide +kernel
theorem dX11_nextToken_366 : decode cX11_nextToken 366 = .ok (.iaload, 1) := by decide +kernel
theorem dX11_nextToken_367 : decode cX11_nextToken 367 = .ok (.bipush 59, 2) := by decide +kernel
theorem dX11_nextToken_369 : decode cX11_nextToken 369 = .ok (.if_icmp .ne 9, 3) := by decide +kernel
theorem dX11_nextToken_372 : decode cX11_nextToken 372 = .ok (.ldc2_w 130, 3) := by decide +kernel
theorem dX11_nextToken_375 : decode cX11_nextToken 375 = .ok (.goto 6, 3) := by decide +kernel
theorem dX11_nextToken_378 : decode cX11_nextToken 378 = .ok (.ldc2_w 126, 3) := by decide +kernel
theorem dX11_nextToken_381 : decode cX11_nextToken 381 = .ok (.putfield 118, 3) := by decide +kernel
theorem dX11_nextToken_384 : decode cX11_nextToken 384 = .ok (.aload_n 0, 1) := by decide +kernel
theorem dX11_nextToken_385 : decode cX11_nextToken 385 = .ok (.dup, 1) := by decide +kernel
theorem dX11_nextToken_386 : decode cX11_nextToken 386 = .ok (.getfield 104, 3) := by decide +kernel
theorem dX11_nextToken_389 : decode cX11_nextToken 389 = .ok (.iconst 1, 1) := by decide +kernel
theorem dX11_nextToken_390 : decode cX11_nextToken 390 = .ok (.iadd, 1) := by decide +kernel
theorem dX11_nextToken_391 : decode cX11_nextToken 391 = .ok (.putfield 104, 3) := by decide +kernel
theorem dX11_nextToken_394 : decode cX11_nextToken 394 = .ok (.return_, 1) := by decide +kernel
theorem dX11_fails_0 : decode cX11_fails 0 = .ok (.aload_n 0, 1) := by decide +kernel
theorem dX11_fails_1 : decode cX11_fails 1 = .ok (.aload_n 0, 1) := by decide +kernel
theorem dX11_fails_2 : decode cX11_fails 2 = .ok (.getfield 107, 3) := by decide +kernel
theorem dX11_fails_5 : decode cX11_fails 5 = .ok (.putfield 132, 3) := by decide +kernel
theorem dX11_fails_8 : decode cX11_fails 8 = .ok (.iconst 0, 1) := by decide +kernel
theorem dX11_fails_9 : decode cX11_fails 9 = .ok (.ireturn, 1) := by decide +kernel
set_option maxRecDepth 20000 in
theorem ggX11_isNumber_X11_nextToken : GoodIn wsX11_isNumber wsX11_nextToken := goodIn_r _ [9, 10, 11, 12, 13, 14, 3, 15, 1, 16, 17, 18, 2, 19, 20, 21, 8, 22, 28, 29, 30, 31, 32, 33, 34, 35, 36, 37, 38, 39, 40, 41, 42, 43, 44, 45, 46, 47, 48, 49, 50, 51, 52, 53, 54, 55, 56, 57, 58, 59, 60, 61, 62, 63, 64, 65, 66] (by decide +kernel) (by decide +kernel)
set_option maxRecDepth 20000 in
theorem gX11_isNumber_X11_nextToken : GoodIn wsX11_isNumber (wsV RX11 135 RX11 yX11_nextToken wsX11_nextToken) := goodIn_app (goodIn_of _ (by decide +kernel)) ggX11_isNumber_X11_nextToken
set_option maxRecDepth 20000 in
theorem ggX11_isNumber_X11_in : GoodIn wsX11_isNumber wsX11_in := goodIn_r _ [22] (by decide +kernel) (by decide +kernel)
set_option maxRecDepth 20000 in
theorem gX11_isNumber_X11_in : GoodIn wsX11_isNumber (va_wsS RX11 94 yX11_in wsX11_in) := goodIn_app (goodIn_of _ (by decide +kernel)) ggX11_isNumber_X11_in
set_option maxRecDepth 20000 in
theorem ggX11_isNumber_X11_fails : GoodIn wsX11_isNumber wsX11_fails := goodIn_r _ [26, 13, 27, 28, 29, 30, 31, 32, 33, 34, 35, 36, 37, 38, 39, 40, 41, 42, 43, 44, 45, 46, 47, 48, 49, 50, 51, 52, 53, 54, 55, 56, 57, 58, 59, 60, 61, 62, 63, 64, 65, 66] (by decide +kernel) (by decide +kernel)
set_option maxRecDepth 20000 in
theorem gX11_isNumber_X11_fails : GoodIn wsX11_isNumber (wsV RX11 138 RX11 yX11_fails wsX11_fails) := goodIn_app (goodIn_of _ (by decide +kernel)) ggX11_isNumber_X11_fails
theorem dX11_isNumber_0 : decode cX11_isNumber 0 = .ok (.aload_n 0, 1) := by decide +kernel
theorem dX11_isNumber_1 : decode cX11_isNumber 1 = .ok (.invokevirtual 135, 3) := by decide +kernel
theorem dX11_isNumber_4 : decode cX11_isNumber 4 = .ok (.aload_n 0, 1) := by decide +kernel
theorem dX11_isNumber_5 : decode cX11_isNumber 5 = .ok (.getfield 118, 3) := by decide +kernel
theorem dX11_isNumber_8 : decode cX11_isNumber 8 = .ok (.ldc2_w 128, 3) := by decide +kernel
theorem dX11_isNumber_11 : decode cX11_isNumber 11 = .ok (.lcmp, 1) := by decide +kernel
theorem dX11_isNumber_12 : decode cX11_isNumber 12 = .ok (.ifCond .ne 15, 3) := by decide +kernel
theorem dX11_isNumber_15 : decode cX11_isNumber 15 = .ok (.aload_n 0, 1) := by decide +kernel
theorem dX11_isNumber_16 : decode cX11_isNumber 16 = .ok (.getfield 113, 3) := by decide +kernel
theorem dX11_isNumber_19 : decode cX11_isNumber 19 = .ok (.iload_n 2, 1) := by decide +kernel
theorem dX11_isNumber_20 : decode cX11_isNumber 20 = .ok (.iload_n 3, 1) := by decide +kernel
theorem dX11_isNumber_21 : decode cX11_isNumber 21 = .ok (.invokestatic 94, 3) := by decide +kernel
theorem dX11_isNumber_24 : decode cX11_isNumber 24 = .ok (.ifCond .ne 8, 3) := by decide +kernel
theorem dX11_isNumber_27 : decode cX11_isNumber 27 = .ok (.aload_n 0, 1) := by decide +kernel
theorem dX11_isNumber_28 : decode cX11_isNumber 28 = .ok (.invokevirtual 138, 3) := by decide +kernel
theorem dX11_isNumber_31 : decode cX11_isNumber 31 = .ok (.ireturn, 1) := by decide +kernel
theorem dX11_isNumber_32 : decode cX11_isNumber 32 = .ok (.aload_n 0, 1) := by decide +kernel
theorem dX11_isNumber_33 : decode cX11_isNumber 33 = .ok (.getfield 22, 3) := by decide +kernel
theorem dX11_isNumber_36 : decode cX11_isNumber 36 = .ok (.iload_n 1, 1) := by decide +kernel
theorem dX11_isNumber_37 : decode cX11_isNumber 37 = .ok (.aload_n 0, 1) := by decide +kernel
theorem dX11_isNumber_38 : decode cX11_isNumber 38 = .ok (.getfield 113, 3) := by decide +kernel
theorem dX11_isNumber_41 : decode cX11_isNumber 41 = .ok (.iastore, 1) := by decide +kernel
theorem dX11_isNumber_42 : decode cX11_isNumber 42 = .ok (.iconst 1, 1) := by decide +kernel
theorem dX11_isNumber_43 : decode cX11_isNumber 43 = .ok (.ireturn, 1) := by decide +kernel
theorem dX11_sortOf_0 : decode cX11_sortOf 0 = .ok (.aload_n 0, 1) := by decide +kernel
theorem dX11_sortOf_1 : decode cX11_sortOf 1 = .ok (.getfield 118, 3) := by decide +kernel
theorem dX11_sortOf_4 : decode cX11_sortOf 4 = .ok (.ldc2_w 142, 3) := by decide +kernel
theorem dX11_sortOf_7 : decode cX11_sortOf 7 = .ok (.lcmp, 1) := by decide +kernel
theorem dX11_sortOf_8 : decode cX11_sortOf 8 = .ok (.ifCond .ne 7, 3) := by decide +kernel
theorem dX11_sortOf_11 : decode cX11_sortOf 11 = .ok (.iconst 0, 1) := by decide +kernel
theorem dX11_sortOf_12 : decode cX11_sortOf 12 = .ok (.goto 49, 3) := by decide +kernel
theorem dX11_sortOf_15 : decode cX11_sortOf 15 = .ok (.aload_n 0, 1) := by decide +kernel
theorem dX11_sortOf_16 : decode cX11_sortOf 16 = .ok (.getfield 118, 3) := by decide +kernel
theorem dX11_sortOf_19 : decode cX11_sortOf 19 = .ok (.ldc2_w 144, 3) := by decide +kernel
theorem dX11_sortOf_22 : decode cX11_sortOf 22 = .ok (.lcmp, 1) := by decide +kernel
theorem dX11_sortOf_23 : decode cX11_sortOf 23 = .ok (.ifCond .ne 7, 3) := by decide +kernel
theorem dX11_sortOf_26 : decode cX11_sortOf 26 = .ok (.iconst 1, 1) := by decide +kernel
theorem dX11_sortOf_27 : decode cX11_sortOf 27 = .ok (.goto 34, 3) := by decide +kernel
theorem dX11_sortOf_30 : decode cX11_sortOf 30 = .ok (.aload_n 0, 1) := by decide +kernel
theorem dX11_sortOf_31 : decode cX11_sortOf 31 = .ok (.getfield 118, 3) := by decide +kernel
theorem dX11_sortOf_34 : decode cX11_sortOf 34 = .ok (.ldc2_w 146, 3) := by decide +kernel
theorem dX11_sortOf_37 : decode cX11_sortOf 37 = .ok (.lcmp, 1) := by decide +kernel
theorem dX11_sortOf_38 : decode cX11_sortOf 38 = .ok (.ifCond .ne 7, 3) := by decide +kernel
theorem dX11_sortOf_41 : decode cX11_sortOf 41 = .ok (.iconst 2, 1) := by decide +kernel
theorem dX11_sortOf_42 : decode cX11_sortOf 42 = .ok (.goto 19, 3) := by decide +kernel
theorem dX11_sortOf_45 : decode cX11_sortOf 45 = .ok (.aload_n 0, 1) := by decide +kernel
theorem dX11_sortOf_46 : decode cX11_sortOf 46 = .ok (.getfield 118, 3) := by decide +kernel
theorem dX11_sortOf_49 : decode cX11_sortOf 49 = .ok (.ldc2_w 148, 3) := by decide +kernel
theorem dX11_sortOf_52 : decode cX11_sortOf 52 = .ok (.lcmp, 1) := by decide +kernel
theorem dX11_sortOf_53 : decode cX11_sortOf 53 = .ok (.ifCond .ne 7, 3) := by decide +kernel
theorem dX11_sortOf_56 : decode cX11_sortOf 56 = .ok (.iconst 3, 1) := by decide +kernel
theorem dX11_sortOf_57 : decode cX11_sortOf 57 = .ok (.goto 4, 3) := by decide +kernel
theorem dX11_sortOf_60 : decode cX11_sortOf 60 = .ok (.iconst (-1), 1) := by decide +kernel
theorem dX11_sortOf_61 : decode cX11_sortOf 61 = .ok (.istore_n 1, 1) := by decide +kernel
theorem dX11_sortOf_62 : decode cX11_sortOf 62 = .ok (.aload_n 0, 1) := by decide +kernel
theorem dX11_sortOf_63 : decode cX11_sortOf 63 = .ok (.getfield 118, 3) := by decide +kernel
theorem dX11_sortOf_66 : decode cX11_sortOf 66 = .ok (.ldc2_w 150, 3) := by decide +kernel
theorem dX11_sortOf_69 : decode cX11_sortOf 69 = .ok (.lcmp, 1) := by decide +kernel
theorem dX11_sortOf_70 : decode cX11_sortOf 70 = .ok (.ifCond .ne 7, 3) := by decide +kernel
theorem dX11_sortOf_73 : decode cX11_sortOf 73 = .ok (.iconst 4, 1) := by decide +kernel
theorem dX11_sortOf_74 : decode cX11_sortOf 74 = .ok (.goto 35, 3) := by decide +kernel
theorem dX11_sortOf_77 : decode cX11_sortOf 77 = .ok (.aload_n 0, 1) := by decide +kernel
theorem dX11_sortOf_78 : decode cX11_sortOf 78 = .ok (.getfield 118, 3) := by decide +kernel
theorem dX11_sortOf_81 : decode cX11_sortOf 81 = .ok (.ldc2_w 152, 3) := by decide +kernel
theorem dX11_sortOf_84 : decode cX11_sortOf 84 = .ok (.lcmp, 1) := by decide +kernel
theorem dX11_sortOf_85 : decode cX11_sortOf 85 = .ok (.ifCond .ne 7, 3) := by decide +kernel
theorem dX11_sortOf_88 : decode cX11_sortOf 88 = .ok (.iconst 5, 1) := by decide +kernel
theorem dX11_sortOf_89 : decode cX11_sortOf 89 = .ok (.goto 20, 3) := by decide +kernel
theorem dX11_sortOf_92 : decode cX11_sortOf 92 = .ok (.aload_n 0, 1) := by decide +kernel
theorem dX11_sortOf_93 : decode cX11_sortOf 93 = .ok (.getfield 118, 3) := by decide +kernel
theorem dX11_sortOf_96 : decode cX11_sortOf 96 = .ok (.ldc2_w 154, 3) := by decide +kernel
theorem dX11_sortOf_99 : decode cX11_sortOf 99 = .ok (.lcmp, 1) := by decide +kernel
theorem dX11_sortOf_100 : decode cX11_sortOf 100 = .ok (.ifCond .ne 8, 3) := by decide +kernel
theorem dX11_sortOf_103 : decode cX11_sortOf 103 = .ok (.bipush 6, 2) := by decide +kernel
theorem dX11_sortOf_105 : decode cX11_sortOf 105 = .ok (.goto 4, 3) := by decide +kernel
theorem dX11_sortOf_108 : decode cX11_sortOf 108 = .ok (.iconst (-1), 1) := by decide +kernel
theorem dX11_sortOf_109 : decode cX11_sortOf 109 = .ok (.istore_n 2, 1) := by decide +kernel
theorem dX11_sortOf_110 : decode cX11_sortOf 110 = .ok (.aload_n 0, 1) := by decide +kernel
theorem dX11_sortOf_111 : decode cX11_sortOf 111 = .ok (.getfield 118, 3) := by decide +kernel
theorem dX11_sortOf_114 : decode cX11_sortOf 114 = .ok (.ldc2_w 156, 3) := by decide +kernel
theorem dX11_sortOf_117 : decode cX11_sortOf 117 = .ok (.lcmp, 1) := by decide +kernel
theorem dX11_sortOf_118 : decode cX11_sortOf 118 = .ok (.ifCond .ne 8, 3) := by decide +kernel
theorem dX11_sortOf_121 : decode cX11_sortOf 121 = .ok (.bipush 7, 2) := by decide +kernel
theorem dX11_sortOf_123 : decode cX11_sortOf 123 = .ok (.goto 36, 3) := by decide +kernel
theorem dX11_sortOf_126 : decode cX11_sortOf 126 = .ok (.aload_n 0, 1) := by decide +kernel
theorem dX11_sortOf_127 : decode cX11_sortOf 127 = .ok (.getfield 118, 3) := by decide +kernel
theorem dX11_sortOf_130 : decode cX11_sortOf 130 = .ok (.ldc2_w 158, 3) := by decide +kernel
theorem dX11_sortOf_133 : decode cX11_sortOf 133 = .ok (.lcmp, 1) := by decide +kernel
theorem dX11_sortOf_134 : decode cX11_sortOf 134 = .ok (.ifCond .ne 8, 3) := by decide +kernel
theorem dX11_sortOf_137 : decode cX11_sortOf 137 = .ok (.bipush 8, 2) := by decide +kernel
theorem dX11_sortOf_139 : decode cX11_sortOf 139 = .ok (.goto 20, 3) := by decide +kernel
theorem dX11_sortOf_142 : decode cX11_sortOf 142 = .ok (.aload_n 0, 1) := by decide +kernel
theorem dX11_sortOf_143 : decode cX11_sortOf 143 = .ok (.getfield 118, 3) := by decide +kernel
theorem dX11_sortOf_146 : decode cX11_sortOf 146 = .ok (.ldc2_w 160, 3) := by decide +kernel
theorem dX11_sortOf_149 : decode cX11_sortOf 149 = .ok (.lcmp, 1) := by decide +kernel
theorem dX11_sortOf_150 : decode cX11_sortOf 150 = .ok (.ifCond .ne 8, 3) := by decide +kernel
theorem dX11_sortOf_153 : decode cX11_sortOf 153 = .ok (.bipush 9, 2) := by decide +kernel
theorem dX11_sortOf_155 : decode cX11_sortOf 155 = .ok (.goto 4, 3) := by decide +kernel
theorem dX11_sortOf_158 : decode cX11_sortOf 158 = .ok (.iconst (-1), 1) := by decide +kernel
theorem dX11_sortOf_159 : decode cX11_sortOf 159 = .ok (.istore_n 3, 1) := by decide +kernel
theorem dX11_sortOf_160 : decode cX11_sortOf 160 = .ok (.aload_n 0, 1) := by decide +kernel
theorem dX11_sortOf_161 : decode cX11_sortOf 161 = .ok (.getfield 118, 3) := by decide +kernel
theorem dX11_sortOf_164 : decode cX11_sortOf 164 = .ok (.ldc2_w 162, 3) := by decide +kernel
theorem dX11_sortOf_167 : decode cX11_sortOf 167 = .ok (.lcmp, 1) := by decide +kernel
theorem dX11_sortOf_168 : decode cX11_sortOf 168 = .ok (.ifCond .ne 8, 3) := by decide +kernel
theorem dX11_sortOf_171 : decode cX11_sortOf 171 = .ok (.bipush 10, 2) := by decide +kernel
theorem dX11_sortOf_173 : decode cX11_sortOf 173 = .ok (.goto 36, 3) := by decide +kernel
theorem dX11_sortOf_176 : decode cX11_sortOf 176 = .ok (.aload_n 0, 1) := by decide +kernel
theorem dX11_sortOf_177 : decode cX11_sortOf 177 = .ok (.getfield 118, 3) := by decide +kernel
theorem dX11_sortOf_180 : decode cX11_sortOf 180 = .ok (.ldc2_w 164, 3) := by decide +kernel
theorem dX11_sortOf_183 : decode cX11_sortOf 183 = .ok (.lcmp, 1) := by decide +kernel
theorem dX11_sortOf_184 : decode cX11_sortOf 184 = .ok (.ifCond .ne 8, 3) := by decide +kernel
theorem dX11_sortOf_187 : decode cX11_sortOf 187 = .ok (.bipush 11, 2) := by decide +kernel
theorem dX11_sortOf_189 : decode cX11_sortOf 189 = .ok (.goto 20, 3) := by decide +kernel
theorem dX11_sortOf_192 : decode cX11_sortOf 192 = .ok (.aload_n 0, 1) := by decide +kernel
theorem dX11_sortOf_193 : decode cX11_sortOf 193 = .ok (.getfield 118, 3) := by decide +kernel
theorem dX11_sortOf_196 : decode cX11_sortOf 196 = .ok (.ldc2_w 166, 3) := by decide +kernel
theorem dX11_sortOf_199 : decode cX11_sortOf 199 = .ok (.lcmp, 1) := by decide +kernel
theorem dX11_sortOf_200 : decode cX11_sortOf 200 = .ok (.ifCond .ne 8, 3) := by decide +kernel
theorem dX11_sortOf_203 : decode cX11_sortOf 203 = .ok (.bipush 12, 2) := by decide +kernel
theorem dX11_sortOf_205 : decode cX11_sortOf 205 = .ok (.goto 4, 3) := by decide +kernel
theorem dX11_sortOf_208 : decode cX11_sortOf 208 = .ok (.iconst (-1), 1) := by decide +kernel
theorem dX11_sortOf_209 : decode cX11_sortOf 209 = .ok (.istore 4, 2) := by decide +kernel
theorem dX11_sortOf_211 : decode cX11_sortOf 211 = .ok (.iload_n 1, 1) := by decide +kernel
theorem dX11_sortOf_212 : decode cX11_sortOf 212 = .ok (.iconst (-1), 1) := by decide +kernel
theorem dX11_sortOf_213 : decode cX11_sortOf 213 = .ok (.if_icmp .eq 7, 3) := by decide +kernel
theorem dX11_sortOf_216 : decode cX11_sortOf 216 = .ok (.iload_n 1, 1) := by decide +kernel
theorem dX11_sortOf_217 : decode cX11_sortOf 217 = .ok (.goto 23, 3) := by decide +kernel
theorem dX11_sortOf_220 : decode cX11_sortOf 220 = .ok (.iload_n 2, 1) := by decide +kernel
theorem dX11_sortOf_221 : decode cX11_sortOf 221 = .ok (.iconst (-1), 1) := by decide +kernel
theorem dX11_sortOf_222 : decode cX11_sortOf 222 = .ok (.if_icmp .eq 7, 3) := by decide +kernel
theorem dX11_sortOf_225 : decode cX11_sortOf 225 = .ok (.iload_n 2, 1) := by decide +kernel
theorem dX11_sortOf_226 : decode cX11_sortOf 226 = .ok (.goto 14, 3) := by decide +kernel
theorem dX11_sortOf_229 : decode cX11_sortOf 229 = .ok (.iload_n 3, 1) := by decide +kernel
theorem dX11_sortOf_230 : decode cX11_sortOf 230 = .ok (.iconst (-1), 1) := by decide +kernel
theorem dX11_sortOf_231 : decode cX11_sortOf 231 = .ok (.if_icmp .eq 7, 3) := by decide +kernel
theorem dX11_sortOf_234 : decode cX11_sortOf 234 = .ok (.iload_n 3, 1) := by decide +kernel
theorem dX11_sortOf_235 : decode cX11_sortOf 235 = .ok (.goto 5, 3) := by decide +kernel
theorem dX11_sortOf_238 : decode cX11_sortOf 238 = .ok (.iload 4, 2) := by decide +kernel
theorem dX11_sortOf_240 : decode cX11_sortOf 240 = .ok (.ireturn, 1) := by decide +kernel
set_option maxRecDepth 20000 in
theorem ggX11_isRoadLine_X11_fails : GoodIn wsX11_isRoadLine wsX11_fails := goodIn_r _ [8, 9, 10, 34, 35, 36, 37, 38, 39, 40, 41, 42, 43, 44, 45, 46, 47, 48, 49, 50, 51, 52, 53, 54, 55, 56, 57, 58, 59, 60, 61, 62, 63, 64, 65, 66, 67, 68, 69, 70, 71, 72] (by decide +kernel) (by decide +kernel)
set_option maxRecDepth 20000 in
theorem gX11_isRoadLine_X11_fails : GoodIn wsX11_isRoadLine (wsV RX11 138 RX11 yX11_fails wsX11_fails) := goodIn_app (goodIn_of _ (by decide +kernel)) ggX11_isRoadLine_X11_fails
set_option maxRecDepth 20000 in
theorem ggX11_isRoadLine_X11_isNumber : GoodIn wsX11_isRoadLine wsX11_isNumber := goodIn_r _ [14, 15, 16, 17, 3, 18, 19, 20, 7, 21, 22, 23, 24, 9, 25, 26, 27, 28, 29, 30, 31, 32, 33, 4, 5, 6, 8, 10, 34, 35, 36, 37, 38, 39, 40, 41, 42, 43, 44, 45, 46, 47, 48, 49, 50, 51, 52, 53, 54, 55, 56, 57, 58, 59, 60, 61, 62, 63, 64, 65, 66, 67, 68, 69, 70, 71, 72] (by decide +kernel) (by decide +kernel)
set_option maxRecDepth 20000 in
theorem gX11_isRoadLine_X11_isNumber : GoodIn wsX11_isRoadLine (wsV RX11 174 RX11 yX11_isNumber wsX11_isNumber) := goodIn_app (goodIn_of _ (by decide +kernel)) ggX11_isRoadLine_X11_isNumber
theorem dX11_isRoadLine_0 : decode cX11_isRoadLine 0 = .ok (.aload_n 0, 1) := by decide +kernel
theorem dX11_isRoadLine_1 : decode cX11_isRoadLine 1 = .ok (.getfield 168, 3) := by decide +kernel
theorem dX11_isRoadLine_4 : decode cX11_isRoadLine 4 = .ok (.bipush 9, 2) := by decide +kernel
theorem dX11_isRoadLine_6 : decode cX11_isRoadLine 6 = .ok (.if_icmp .ne 8, 3) := by decide +kernel
theorem dX11_isRoadLine_9 : decode cX11_isRoadLine 9 = .ok (.aload_n 0, 1) := by decide +kernel
theorem dX11_isRoadLine_10 : decode cX11_isRoadLine 10 = .ok (.invokevirtual 138, 3) := by decide +kernel
theorem dX11_isRoadLine_13 : decode cX11_isRoadLine 13 = .ok (.ireturn, 1) := by decide +kernel
theorem dX11_isRoadLine_14 : decode cX11_isRoadLine 14 = .ok (.aload_n 0, 1) := by decide +kernel
theorem dX11_isRoadLine_15 : decode cX11_isRoadLine 15 = .ok (.dup, 1) := by decide +kernel
theorem dX11_isRoadLine_16 : decode cX11_isRoadLine 16 = .ok (.getfield 168, 3) := by decide +kernel
theorem dX11_isRoadLine_19 : decode cX11_isRoadLine 19 = .ok (.iconst 1, 1) := by decide +kernel
theorem dX11_isRoadLine_20 : decode cX11_isRoadLine 20 = .ok (.iadd, 1) := by decide +kernel
theorem dX11_isRoadLine_21 : decode cX11_isRoadLine 21 = .ok (.putfield 168, 3) := by decide +kernel
theorem dX11_isRoadLine_24 : decode cX11_isRoadLine 24 = .ok (.aload_n 0, 1) := by decide +kernel
theorem dX11_isRoadLine_25 : decode cX11_isRoadLine 25 = .ok (.iload_n 1, 1) := by decide +kernel
theorem dX11_isRoadLine_26 : decode cX11_isRoadLine 26 = .ok (.iconst 1, 1) := by decide +kernel
theorem dX11_isRoadLine_27 : decode cX11_isRoadLine 27 = .ok (.iadd, 1) := by decide +kernel
theorem dX11_isRoadLine_28 : decode cX11_isRoadLine 28 = .ok (.iconst 0, 1) := by decide +kernel
theorem dX11_isRoadLine_29 : decode cX11_isRoadLine 29 = .ok (.aload_n 0, 1) := by decide +kernel
theorem dX11_isRoadLine_30 : decode cX11_isRoadLine 30 = .ok (.getfield 171, 3) := by decide +kernel
theorem dX11_isRoadLine_33 : decode cX11_isRoadLine 33 = .ok (.iconst 1, 1) := by decide +kernel
theorem dX11_isRoadLine_34 : decode cX11_isRoadLine 34 = .ok (.isub, 1) := by decide +kernel
theorem dX11_isRoadLine_35 : decode cX11_isRoadLine 35 = .ok (.invokevirtual 174, 3) := by decide +kernel
theorem dX11_isRoadLine_38 : decode cX11_isRoadLine 38 = .ok (.ifCond .eq 20, 3) := by decide +kernel
theorem dX11_isRoadLine_41 : decode cX11_isRoadLine 41 = .ok (.aload_n 0, 1) := by decide +kernel
theorem dX11_isRoadLine_42 : decode cX11_isRoadLine 42 = .ok (.iload_n 1, 1) := by decide +kernel
theorem dX11_isRoadLine_43 : decode cX11_isRoadLine 43 = .ok (.iconst 2, 1) := by decide +kernel
theorem dX11_isRoadLine_44 : decode cX11_isRoadLine 44 = .ok (.iadd, 1) := by decide +kernel
theorem dX11_isRoadLine_45 : decode cX11_isRoadLine 45 = .ok (.iconst 0, 1) := by decide +kernel
theorem dX11_isRoadLine_46 : decode cX11_isRoadLine 46 = .ok (.aload_n 0, 1) := by decide +kernel
theorem dX11_isRoadLine_47 : decode cX11_isRoadLine 47 = .ok (.getfield 171, 3) := by decide +kernel
theorem dX11_isRoadLine_50 : decode cX11_isRoadLine 50 = .ok (.iconst 1, 1) := by decide +kernel
theorem dX11_isRoadLine_51 : decode cX11_isRoadLine 51 = .ok (.isub, 1) := by decide +kernel
theorem dX11_isRoadLine_52 : decode cX11_isRoadLine 52 = .ok (.invokevirtual 174, 3) := by decide +kernel
theorem dX11_isRoadLine_55 : decode cX11_isRoadLine 55 = .ok (.ifCond .ne 5, 3) := by decide +kernel
theorem dX11_isRoadLine_58 : decode cX11_isRoadLine 58 = .ok (.iconst 0, 1) := by decide +kernel
theorem dX11_isRoadLine_59 : decode cX11_isRoadLine 59 = .ok (.ireturn, 1) := by decide +kernel
theorem dX11_isRoadLine_60 : decode cX11_isRoadLine 60 = .ok (.aload_n 0, 1) := by decide +kernel
theorem dX11_isRoadLine_61 : decode cX11_isRoadLine 61 = .ok (.getfield 22, 3) := by decide +kernel
theorem dX11_isRoadLine_64 : decode cX11_isRoadLine 64 = .ok (.iload_n 1, 1) := by decide +kernel
theorem dX11_isRoadLine_65 : decode cX11_isRoadLine 65 = .ok (.iconst 1, 1) := by decide +kernel
theorem dX11_isRoadLine_66 : decode cX11_isRoadLine 66 = .ok (.iadd, 1) := by decide +kernel
theorem dX11_isRoadLine_67 : decode cX11_isRoadLine 67 = .ok (.iaload, 1) := by decide +kernel
theorem dX11_isRoadLine_68 : decode cX11_isRoadLine 68 = .ok (.aload_n 0, 1) := by decide +kernel
theorem dX11_isRoadLine_69 : decode cX11_isRoadLine 69 = .ok (.getfield 22, 3) := by decide +kernel
theorem dX11_isRoadLine_72 : decode cX11_isRoadLine 72 = .ok (.iload_n 1, 1) := by decide +kernel
theorem dX11_isRoadLine_73 : decode cX11_isRoadLine 73 = .ok (.iconst 2, 1) := by decide +kernel
theorem dX11_isRoadLine_74 : decode cX11_isRoadLine 74 = .ok (.iadd, 1) := by decide +kernel
theorem dX11_isRoadLine_75 : decode cX11_isRoadLine 75 = .ok (.iaload, 1) := by decide +kernel
theorem dX11_isRoadLine_76 : decode cX11_isRoadLine 76 = .ok (.if_icmp .ne 10, 3) := by decide +kernel
theorem dX11_isRoadLine_79 : decode cX11_isRoadLine 79 = .ok (.aload_n 0, 1) := by decide +kernel
theorem dX11_isRoadLine_80 : decode cX11_isRoadLine 80 = .ok (.invokevirtual 138, 3) := by decide +kernel
theorem dX11_isRoadLine_83 : decode cX11_isRoadLine 83 = .ok (.goto 13, 3) := by decide +kernel
theorem dX11_isRoadLine_86 : decode cX11_isRoadLine 86 = .ok (.aload_n 0, 1) := by decide +kernel
theorem dX11_isRoadLine_87 : decode cX11_isRoadLine 87 = .ok (.iload_n 1, 1) := by decide +kernel
theorem dX11_isRoadLine_88 : decode cX11_isRoadLine 88 = .ok (.iconst 3, 1) := by decide +kernel
theorem dX11_isRoadLine_89 : decode cX11_isRoadLine 89 = .ok (.iadd, 1) := by decide +kernel
theorem dX11_isRoadLine_90 : decode cX11_isRoadLine 90 = .ok (.iconst 1, 1) := by decide +kernel
theorem dX11_isRoadLine_91 : decode cX11_isRoadLine 91 = .ok (.bipush 6, 2) := by decide +kernel
theorem dX11_isRoadLine_93 : decode cX11_isRoadLine 93 = .ok (.invokevirtual 174, 3) := by decide +kernel
theorem dX11_isRoadLine_96 : decode cX11_isRoadLine 96 = .ok (.ireturn, 1) := by decide +kernel
set_option maxRecDepth 20000 in
theorem ggX11_isLine_X11_nextToken : GoodIn wsX11_isLine wsX11_nextToken := goodIn_r _ [9, 10, 11, 12, 13, 14, 15, 16, 17, 18, 19, 20, 21, 22, 23, 24, 8, 25, 56, 57, 58, 59, 60, 61, 62, 63, 64, 65, 66, 67, 68, 69, 70, 71, 72, 73, 74, 75, 76, 77, 78, 79, 80, 81, 82, 83, 84, 85, 86, 87, 88, 89, 90, 91, 92, 93, 94] (by decide +kernel) (by decide +kernel)
set_option maxRecDepth 20000 in
theorem gX11_isLine_X11_nextToken : GoodIn wsX11_isLine (wsV RX11 135 RX11 yX11_nextToken wsX11_nextToken) := goodIn_app (goodIn_of _ (by decide +kernel)) ggX11_isLine_X11_nextToken
set_option maxRecDepth 20000 in
theorem ggX11_isLine_X11_sortOf : GoodIn wsX11_isLine wsX11_sortOf := goodIn_r _ [29, 17, 30, 31, 32, 33, 34, 35, 36, 37, 38, 39, 40, 41, 42, 56, 57, 58, 59, 60, 61, 62, 63, 64, 65, 66, 67, 68, 69, 70, 71, 72, 73, 74, 75, 76, 77, 78, 79, 80, 81, 82, 83, 84, 85, 86, 87, 88, 89, 90, 91, 92, 93, 94] (by decide +kernel) (by decide +kernel)
set_option maxRecDepth 20000 in
theorem gX11_isLine_X11_sortOf : GoodIn wsX11_isLine (wsV RX11 177 RX11 yX11_sortOf wsX11_sortOf) := goodIn_app (goodIn_of _ (by decide +kernel)) ggX11_isLine_X11_sortOf
set_option maxRecDepth 20000 in
theorem ggX11_isLine_X11_fails : GoodIn wsX11_isLine wsX11_fails := goodIn_r _ [46, 13, 47, 56, 57, 58, 59, 60, 61, 62, 63, 64, 65, 66, 67, 68, 69, 70, 71, 72, 73, 74, 75, 76, 77, 78, 79, 80, 81, 82, 83, 84, 85, 86, 87, 88, 89, 90, 91, 92, 93, 94] (by decide +kernel) (by decide +kernel)
set_option maxRecDepth 20000 in
theorem gX11_isLine_X11_fails : GoodIn wsX11_isLine (wsV RX11 138 RX11 yX11_fails wsX11_fails) := goodIn_app (goodIn_of _ (by decide +kernel)) ggX11_isLine_X11_fails
set_option maxRecDepth 20000 in
theorem ggX11_isLine_X11_isRoadLine : GoodIn wsX11_isLine wsX11_isRoadLine := goodIn_r _ [51, 4, 2, 1, 43, 44, 45, 8, 46, 13, 47, 52, 53, 54, 55, 17, 21, 15, 5, 6, 7, 9, 10, 11, 12, 14, 16, 18, 19, 20, 22, 23, 24, 25, 56, 57, 58, 59, 60, 61, 62, 63, 64, 65, 66, 67, 68, 69, 70, 71, 72, 73, 74, 75, 76, 77, 78, 79, 80, 81, 82, 83, 84, 85, 86, 87, 88, 89, 90, 91, 92, 93, 94] (by decide +kernel) (by decide +kernel)
set_option maxRecDepth 20000 in
theorem gX11_isLine_X11_isRoadLine : GoodIn wsX11_isLine (wsV RX11 181 RX11 yX11_isRoadLine wsX11_isRoadLine) := goodIn_app (goodIn_of _ (by decide +kernel)) ggX11_isLine_X11_isRoadLine
set_option maxRecDepth 20000 in
theorem ggX11_isLine_X11_isNumber : GoodIn wsX11_isLine wsX11_isNumber := goodIn_r _ [55, 17, 21, 15, 1, 5, 6, 7, 8, 9, 10, 11, 12, 13, 14, 16, 18, 19, 20, 22, 23, 24, 25, 43, 44, 45, 46, 47, 56, 57, 58, 59, 60, 61, 62, 63, 64, 65, 66, 67, 68, 69, 70, 71, 72, 73, 74, 75, 76, 77, 78, 79, 80, 81, 82, 83, 84, 85, 86, 87, 88, 89, 90, 91, 92, 93, 94] (by decide +kernel) (by decide +kernel)
set_option maxRecDepth 20000 in
theorem gX11_isLine_X11_isNumber : GoodIn wsX11_isLine (wsV RX11 174 RX11 yX11_isNumber wsX11_isNumber) := goodIn_app (goodIn_of _ (by decide +kernel)) ggX11_isLine_X11_isNumber
theorem dX11_isLine_0 : decode cX11_isLine 0 = .ok (.aload_n 0, 1) := by decide +kernel
theorem dX11_isLine_1 : decode cX11_isLine 1 = .ok (.invokevirtual 135, 3) := by decide +kernel
theorem dX11_isLine_4 : decode cX11_isLine 4 = .ok (.aload_n 0, 1) := by decide +kernel
theorem dX11_isLine_5 : decode cX11_isLine 5 = .ok (.invokevirtual 177, 3) := by decide +kernel
theorem dX11_isLine_8 : decode cX11_isLine 8 = .ok (.istore_n 2, 1) := by decide +kernel
theorem dX11_isLine_9 : decode cX11_isLine 9 = .ok (.aload_n 0, 1) := by decide +kernel
theorem dX11_isLine_10 : decode cX11_isLine 10 = .ok (.getfield 22, 3) := by decide +kernel
theorem dX11_isLine_13 : decode cX11_isLine 13 = .ok (.iload_n 1, 1) := by decide +kernel
theorem dX11_isLine_14 : decode cX11_isLine 14 = .ok (.iload_n 2, 1) := by decide +kernel
theorem dX11_isLine_15 : decode cX11_isLine 15 = .ok (.iastore, 1) := by decide +kernel
theorem dX11_isLine_16 : decode cX11_isLine 16 = .ok (.iload_n 2, 1) := by decide +kernel
theorem dX11_isLine_17 : decode cX11_isLine 17 = .ok (.iconst (-1), 1) := by decide +kernel
theorem dX11_isLine_18 : decode cX11_isLine 18 = .ok (.if_icmp .ne 8, 3) := by decide +kernel
theorem dX11_isLine_21 : decode cX11_isLine 21 = .ok (.aload_n 0, 1) := by decide +kernel
theorem dX11_isLine_22 : decode cX11_isLine 22 = .ok (.invokevirtual 138, 3) := by decide +kernel
theorem dX11_isLine_25 : decode cX11_isLine 25 = .ok (.ireturn, 1) := by decide +kernel
theorem dX11_isLine_26 : decode cX11_isLine 26 = .ok (.iload_n 2, 1) := by decide +kernel
theorem dX11_isLine_27 : decode cX11_isLine 27 = .ok (.iconst 4, 1) := by decide +kernel
theorem dX11_isLine_28 : decode cX11_isLine 28 = .ok (.if_icmp .ge 35, 3) := by decide +kernel
theorem dX11_isLine_31 : decode cX11_isLine 31 = .ok (.aload_n 0, 1) := by decide +kernel
theorem dX11_isLine_32 : decode cX11_isLine 32 = .ok (.dup, 1) := by decide +kernel
theorem dX11_isLine_33 : decode cX11_isLine 33 = .ok (.getfield 171, 3) := by decide +kernel
theorem dX11_isLine_36 : decode cX11_isLine 36 = .ok (.iconst 1, 1) := by decide +kernel
theorem dX11_isLine_37 : decode cX11_isLine 37 = .ok (.iadd, 1) := by decide +kernel
theorem dX11_isLine_38 : decode cX11_isLine 38 = .ok (.putfield 171, 3) := by decide +kernel
theorem dX11_isLine_41 : decode cX11_isLine 41 = .ok (.aload_n 0, 1) := by decide +kernel
theorem dX11_isLine_42 : decode cX11_isLine 42 = .ok (.getfield 171, 3) := by decide +kernel
theorem dX11_isLine_45 : decode cX11_isLine 45 = .ok (.bipush 7, 2) := by decide +kernel
theorem dX11_isLine_47 : decode cX11_isLine 47 = .ok (.if_icmp .le 10, 3) := by decide +kernel
theorem dX11_isLine_50 : decode cX11_isLine 50 = .ok (.aload_n 0, 1) := by decide +kernel
theorem dX11_isLine_51 : decode cX11_isLine 51 = .ok (.invokevirtual 138, 3) := by decide +kernel
theorem dX11_isLine_54 : decode cX11_isLine 54 = .ok (.ifCond .eq 7, 3) := by decide +kernel
theorem dX11_isLine_57 : decode cX11_isLine 57 = .ok (.iconst 1, 1) := by decide +kernel
theorem dX11_isLine_58 : decode cX11_isLine 58 = .ok (.goto 4, 3) := by decide +kernel
theorem dX11_isLine_61 : decode cX11_isLine 61 = .ok (.iconst 0, 1) := by decide +kernel
theorem dX11_isLine_62 : decode cX11_isLine 62 = .ok (.ireturn, 1) := by decide +kernel
theorem dX11_isLine_63 : decode cX11_isLine 63 = .ok (.iload_n 2, 1) := by decide +kernel
theorem dX11_isLine_64 : decode cX11_isLine 64 = .ok (.bipush 7, 2) := by decide +kernel
theorem dX11_isLine_66 : decode cX11_isLine 66 = .ok (.if_icmp .ge 9, 3) := by decide +kernel
theorem dX11_isLine_69 : decode cX11_isLine 69 = .ok (.aload_n 0, 1) := by decide +kernel
theorem dX11_isLine_70 : decode cX11_isLine 70 = .ok (.iload_n 1, 1) := by decide +kernel
theorem dX11_isLine_71 : decode cX11_isLine 71 = .ok (.invokevirtual 181, 3) := by decide +kernel
theorem dX11_isLine_74 : decode cX11_isLine 74 = .ok (.ireturn, 1) := by decide +kernel
theorem dX11_isLine_75 : decode cX11_isLine 75 = .ok (.iload_n 2, 1) := by decide +kernel
theorem dX11_isLine_76 : decode cX11_isLine 76 = .ok (.bipush 10, 2) := by decide +kernel
theorem dX11_isLine_78 : decode cX11_isLine 78 = .ok (.if_icmp .ge 61, 3) := by decide +kernel
theorem dX11_isLine_81 : decode cX11_isLine 81 = .ok (.aload_n 0, 1) := by decide +kernel
theorem dX11_isLine_82 : decode cX11_isLine 82 = .ok (.getfield 185, 3) := by decide +kernel
theorem dX11_isLine_85 : decode cX11_isLine 85 = .ok (.iconst 4, 1) := by decide +kernel
theorem dX11_isLine_86 : decode cX11_isLine 86 = .ok (.if_icmp .ne 8, 3) := by decide +kernel
theorem dX11_isLine_89 : decode cX11_isLine 89 = .ok (.aload_n 0, 1) := by decide +kernel
theorem dX11_isLine_90 : decode cX11_isLine 90 = .ok (.invokevirtual 138, 3) := by decide +kernel
theorem dX11_isLine_93 : decode cX11_isLine 93 = .ok (.ireturn, 1) := by decide +kernel
theorem dX11_isLine_94 : decode cX11_isLine 94 = .ok (.aload_n 0, 1) := by decide +kernel
theorem dX11_isLine_95 : decode cX11_isLine 95 = .ok (.dup, 1) := by decide +kernel
theorem dX11_isLine_96 : decode cX11_isLine 96 = .ok (.getfield 185, 3) := by decide +kernel
theorem dX11_isLine_99 : decode cX11_isLine 99 = .ok (.iconst 1, 1) := by decide +kernel
theorem dX11_isLine_100 : decode cX11_isLine 100 = .ok (.iadd, 1) := by decide +kernel
theorem dX11_isLine_101 : decode cX11_isLine 101 = .ok (.putfield 185, 3) := by decide +kernel
theorem dX11_isLine_104 : decode cX11_isLine 104 = .ok (.aload_n 0, 1) := by decide +kernel
theorem dX11_isLine_105 : decode cX11_isLine 105 = .ok (.iload_n 1, 1) := by decide +kernel
theorem dX11_isLine_106 : decode cX11_isLine 106 = .ok (.iconst 1, 1) := by decide +kernel
theorem dX11_isLine_107 : decode cX11_isLine 107 = .ok (.iadd, 1) := by decide +kernel
theorem dX11_isLine_108 : decode cX11_isLine 108 = .ok (.iconst 0, 1) := by decide +kernel
theorem dX11_isLine_109 : decode cX11_isLine 109 = .ok (.aload_n 0, 1) := by decide +kernel
theorem dX11_isLine_110 : decode cX11_isLine 110 = .ok (.getfield 171, 3) := by decide +kernel
theorem dX11_isLine_113 : decode cX11_isLine 113 = .ok (.iconst 1, 1) := by decide +kernel
theorem dX11_isLine_114 : decode cX11_isLine 114 = .ok (.isub, 1) := by decide +kernel
theorem dX11_isLine_115 : decode cX11_isLine 115 = .ok (.invokevirtual 174, 3) := by decide +kernel
theorem dX11_isLine_118 : decode cX11_isLine 118 = .ok (.ifCond .eq 19, 3) := by decide +kernel
theorem dX11_isLine_121 : decode cX11_isLine 121 = .ok (.aload_n 0, 1) := by decide +kernel
theorem dX11_isLine_122 : decode cX11_isLine 122 = .ok (.iload_n 1, 1) := by decide +kernel
theorem dX11_isLine_123 : decode cX11_isLine 123 = .ok (.iconst 2, 1) := by decide +kernel
theorem dX11_isLine_124 : decode cX11_isLine 124 = .ok (.iadd, 1) := by decide +kernel
theorem dX11_isLine_125 : decode cX11_isLine 125 = .ok (.iconst 0, 1) := by decide +kernel
theorem dX11_isLine_126 : decode cX11_isLine 126 = .ok (.iconst 3, 1) := by decide +kernel
theorem dX11_isLine_127 : decode cX11_isLine 127 = .ok (.invokevirtual 174, 3) := by decide +kernel
theorem dX11_isLine_130 : decode cX11_isLine 130 = .ok (.ifCond .eq 7, 3) := by decide +kernel
theorem dX11_isLine_133 : decode cX11_isLine 133 = .ok (.iconst 1, 1) := by decide +kernel
theorem dX11_isLine_134 : decode cX11_isLine 134 = .ok (.goto 4, 3) := by decide +kernel
theorem dX11_isLine_137 : decode cX11_isLine 137 = .ok (.iconst 0, 1) := by decide +kernel
theorem dX11_isLine_138 : decode cX11_isLine 138 = .ok (.ireturn, 1) := by decide +kernel
theorem dX11_isLine_139 : decode cX11_isLine 139 = .ok (.iload_n 2, 1) := by decide +kernel
theorem dX11_isLine_140 : decode cX11_isLine 140 = .ok (.bipush 10, 2) := by decide +kernel
theorem dX11_isLine_142 : decode cX11_isLine 142 = .ok (.if_icmp .ne 18, 3) := by decide +kernel
theorem dX11_isLine_145 : decode cX11_isLine 145 = .ok (.aload_n 0, 1) := by decide +kernel
theorem dX11_isLine_146 : decode cX11_isLine 146 = .ok (.iconst 0, 1) := by decide +kernel
theorem dX11_isLine_147 : decode cX11_isLine 147 = .ok (.putfield 171, 3) := by decide +kernel
theorem dX11_isLine_150 : decode cX11_isLine 150 = .ok (.aload_n 0, 1) := by decide +kernel
theorem dX11_isLine_151 : decode cX11_isLine 151 = .ok (.iconst 0, 1) := by decide +kernel
theorem dX11_isLine_152 : decode cX11_isLine 152 = .ok (.putfield 168, 3) := by decide +kernel
theorem dX11_isLine_155 : decode cX11_isLine 155 = .ok (.aload_n 0, 1) := by decide +kernel
theorem dX11_isLine_156 : decode cX11_isLine 156 = .ok (.iconst 0, 1) := by decide +kernel
theorem dX11_isLine_157 : decode cX11_isLine 157 = .ok (.putfield 185, 3) := by decide +kernel
theorem dX11_isLine_160 : decode cX11_isLine 160 = .ok (.iload_n 2, 1) := by decide +kernel
theorem dX11_isLine_161 : decode cX11_isLine 161 = .ok (.bipush 11, 2) := by decide +kernel
theorem dX11_isLine_163 : decode cX11_isLine 163 = .ok (.if_icmp .ne 16, 3) := by decide +kernel
theorem dX11_isLine_166 : decode cX11_isLine 166 = .ok (.aload_n 0, 1) := by decide +kernel
theorem dX11_isLine_167 : decode cX11_isLine 167 = .ok (.iload_n 1, 1) := by decide +kernel
theorem dX11_isLine_168 : decode cX11_isLine 168 = .ok (.iconst 1, 1) := by decide +kernel
theorem dX11_isLine_169 : decode cX11_isLine 169 = .ok (.iadd, 1) := by decide +kernel
theorem dX11_isLine_170 : decode cX11_isLine 170 = .ok (.iconst 0, 1) := by decide +kernel
theorem dX11_isLine_171 : decode cX11_isLine 171 = .ok (.bipush 47, 2) := by decide +kernel
theorem dX11_isLine_173 : decode cX11_isLine 173 = .ok (.invokevirtual 174, 3) := by decide +kernel
theorem dX11_isLine_176 : decode cX11_isLine 176 = .ok (.ifCond .eq 7, 3) := by decide +kernel
theorem dX11_isLine_179 : decode cX11_isLine 179 = .ok (.iconst 1, 1) := by decide +kernel
theorem dX11_isLine_180 : decode cX11_isLine 180 = .ok (.goto 4, 3) := by decide +kernel
theorem dX11_isLine_183 : decode cX11_isLine 183 = .ok (.iconst 0, 1) := by decide +kernel
theorem dX11_isLine_184 : decode cX11_isLine 184 = .ok (.ireturn, 1) := by decide +kernel
set_option maxRecDepth 20000 in
theorem ggX11_isRead_X11_isLine : GoodIn wsX11_isRead wsX11_isLine := goodIn_r _ [16, 17, 4, 8, 6, 18, 19, 20, 15, 21, 1, 22, 23, 24, 25, 26, 11, 9, 27, 28, 29, 30, 10, 31, 32, 33, 34, 35, 36, 37, 38, 39, 40, 41, 42, 43, 44, 45, 46, 47, 48, 49, 50, 51, 52, 53, 54, 55, 56, 57, 58, 59, 60, 61, 62, 63, 64, 65, 66, 67, 68, 69, 70, 71, 72, 73, 74, 75, 76, 77, 78, 79, 80, 81, 82, 83, 84, 85, 86, 87, 88, 89, 90, 91, 92, 93, 94, 95, 96, 97, 98, 99, 100, 101, 102] (by decide +kernel) (by decide +kernel)
set_option maxRecDepth 20000 in
theorem gX11_isRead_X11_isLine : GoodIn wsX11_isRead (wsV RX11 191 RX11 yX11_isLine wsX11_isLine) := goodIn_app (goodIn_of _ (by decide +kernel)) ggX11_isRead_X11_isLine
set_option maxRecDepth 20000 in
theorem ggX11_isRead_X11_nextToken : GoodIn wsX11_isRead wsX11_nextToken := goodIn_r _ [21, 1, 22, 23, 24, 25, 26, 11, 9, 27, 28, 29, 30, 10, 31, 32, 15, 33, 64, 65, 66, 67, 68, 69, 70, 71, 72, 73, 74, 75, 76, 77, 78, 79, 80, 81, 82, 83, 84, 85, 86, 87, 88, 89, 90, 91, 92, 93, 94, 95, 96, 97, 98, 99, 100, 101, 102] (by decide +kernel) (by decide +kernel)
set_option maxRecDepth 20000 in
theorem gX11_isRead_X11_nextToken : GoodIn wsX11_isRead (wsV RX11 135 RX11 yX11_nextToken wsX11_nextToken) := goodIn_app (goodIn_of _ (by decide +kernel)) ggX11_isRead_X11_nextToken
set_option maxRecDepth 20000 in
theorem ggX11_isRead_X11_fails : GoodIn wsX11_isRead wsX11_fails := goodIn_r _ [54, 24, 55, 64, 65, 66, 67, 68, 69, 70, 71, 72, 73, 74, 75, 76, 77, 78, 79, 80, 81, 82, 83, 84, 85, 86, 87, 88, 89, 90, 91, 92, 93, 94, 95, 96, 97, 98, 99, 100, 101, 102] (by decide +kernel) (by decide +kernel)
set_option maxRecDepth 20000 in
theorem gX11_isRead_X11_fails : GoodIn wsX11_isRead (wsV RX11 138 RX11 yX11_fails wsX11_fails) := goodIn_app (goodIn_of _ (by decide +kernel)) ggX11_isRead_X11_fails
theorem dX11_isRead_0 : decode cX11_isRead 0 = .ok (.aload_n 0, 1) := by decide +kernel
theorem dX11_isRead_1 : decode cX11_isRead 1 = .ok (.iconst 0, 1) := by decide +kernel
theorem dX11_isRead_2 : decode cX11_isRead 2 = .ok (.putfield 104, 3) := by decide +kernel
theorem dX11_isRead_5 : decode cX11_isRead 5 = .ok (.aload_n 0, 1) := by decide +kernel
theorem dX11_isRead_6 : decode cX11_isRead 6 = .ok (.iconst 0, 1) := by decide +kernel
theorem dX11_isRead_7 : decode cX11_isRead 7 = .ok (.putfield 188, 3) := by decide +kernel
theorem dX11_isRead_10 : decode cX11_isRead 10 = .ok (.aload_n 0, 1) := by decide +kernel
theorem dX11_isRead_11 : decode cX11_isRead 11 = .ok (.aload_n 0, 1) := by decide +kernel
theorem dX11_isRead_12 : decode cX11_isRead 12 = .ok (.getfield 91, 3) := by decide +kernel
theorem dX11_isRead_15 : decode cX11_isRead 15 = .ok (.putfield 171, 3) := by decide +kernel
theorem dX11_isRead_18 : decode cX11_isRead 18 = .ok (.aload_n 0, 1) := by decide +kernel
theorem dX11_isRead_19 : decode cX11_isRead 19 = .ok (.aload_n 0, 1) := by decide +kernel
theorem dX11_isRead_20 : decode cX11_isRead 20 = .ok (.getfield 98, 3) := by decide +kernel
theorem dX11_isRead_23 : decode cX11_isRead 23 = .ok (.putfield 168, 3) := by decide +kernel
theorem dX11_isRead_26 : decode cX11_isRead 26 = .ok (.aload_n 0, 1) := by decide +kernel
theorem dX11_isRead_27 : decode cX11_isRead 27 = .ok (.aload_n 0, 1) := by decide +kernel
theorem dX11_isRead_28 : decode cX11_isRead 28 = .ok (.getfield 78, 3) := by decide +kernel
theorem dX11_isRead_31 : decode cX11_isRead 31 = .ok (.putfield 185, 3) := by decide +kernel
theorem dX11_isRead_34 : decode cX11_isRead 34 = .ok (.iconst 1, 1) := by decide +kernel
theorem dX11_isRead_35 : decode cX11_isRead 35 = .ok (.istore_n 1, 1) := by decide +kernel
theorem dX11_isRead_36 : decode cX11_isRead 36 = .ok (.iload_n 1, 1) := by decide +kernel
theorem dX11_isRead_37 : decode cX11_isRead 37 = .ok (.ifCond .eq 61, 3) := by decide +kernel
theorem dX11_isRead_40 : decode cX11_isRead 40 = .ok (.aload_n 0, 1) := by decide +kernel
theorem dX11_isRead_41 : decode cX11_isRead 41 = .ok (.iconst 4, 1) := by decide +kernel
theorem dX11_isRead_42 : decode cX11_isRead 42 = .ok (.aload_n 0, 1) := by decide +kernel
theorem dX11_isRead_43 : decode cX11_isRead 43 = .ok (.getfield 188, 3) := by decide +kernel
theorem dX11_isRead_46 : decode cX11_isRead 46 = .ok (.imul, 1) := by decide +kernel
theorem dX11_isRead_47 : decode cX11_isRead 47 = .ok (.invokevirtual 191, 3) := by decide +kernel
theorem dX11_isRead_50 : decode cX11_isRead 50 = .ok (.ifCond .ne 5, 3) := by decide +kernel
theorem dX11_isRead_53 : decode cX11_isRead 53 = .ok (.iconst 0, 1) := by decide +kernel
theorem dX11_isRead_54 : decode cX11_isRead 54 = .ok (.ireturn, 1) := by decide +kernel
theorem dX11_isRead_55 : decode cX11_isRead 55 = .ok (.aload_n 0, 1) := by decide +kernel
theorem dX11_isRead_56 : decode cX11_isRead 56 = .ok (.dup, 1) := by decide +kernel
theorem dX11_isRead_57 : decode cX11_isRead 57 = .ok (.getfield 188, 3) := by decide +kernel
theorem dX11_isRead_60 : decode cX11_isRead 60 = .ok (.iconst 1, 1) := by decide +kernel
theorem dX11_isRead_61 : decode cX11_isRead 61 = .ok (.iadd, 1) := by decide +kernel
theorem dX11_isRead_62 : decode cX11_isRead 62 = .ok (.putfield 188, 3) := by decide +kernel
theorem dX11_isRead_65 : decode cX11_isRead 65 = .ok (.aload_n 0, 1) := by decide +kernel
theorem dX11_isRead_66 : decode cX11_isRead 66 = .ok (.invokevirtual 135, 3) := by decide +kernel
theorem dX11_isRead_69 : decode cX11_isRead 69 = .ok (.aload_n 0, 1) := by decide +kernel
theorem dX11_isRead_70 : decode cX11_isRead 70 = .ok (.getfield 118, 3) := by decide +kernel
theorem dX11_isRead_73 : decode cX11_isRead 73 = .ok (.ldc2_w 130, 3) := by decide +kernel
theorem dX11_isRead_76 : decode cX11_isRead 76 = .ok (.lcmp, 1) := by decide +kernel
theorem dX11_isRead_77 : decode cX11_isRead 77 = .ok (.ifCond .ne 16, 3) := by decide +kernel
theorem dX11_isRead_80 : decode cX11_isRead 80 = .ok (.aload_n 0, 1) := by decide +kernel
theorem dX11_isRead_81 : decode cX11_isRead 81 = .ok (.getfield 188, 3) := by decide +kernel
theorem dX11_isRead_84 : decode cX11_isRead 84 = .ok (.bipush 14, 2) := by decide +kernel
theorem dX11_isRead_86 : decode cX11_isRead 86 = .ok (.if_icmp .ge 7, 3) := by decide +kernel
theorem dX11_isRead_89 : decode cX11_isRead 89 = .ok (.iconst 1, 1) := by decide +kernel
theorem dX11_isRead_90 : decode cX11_isRead 90 = .ok (.goto 4, 3) := by decide +kernel
theorem dX11_isRead_93 : decode cX11_isRead 93 = .ok (.iconst 0, 1) := by decide +kernel
theorem dX11_isRead_94 : decode cX11_isRead 94 = .ok (.istore_n 1, 1) := by decide +kernel
theorem dX11_isRead_95 : decode cX11_isRead 95 = .ok (.goto (-59), 3) := by decide +kernel
theorem dX11_isRead_98 : decode cX11_isRead 98 = .ok (.aload_n 0, 1) := by decide +kernel
theorem dX11_isRead_99 : decode cX11_isRead 99 = .ok (.getfield 118, 3) := by decide +kernel
theorem dX11_isRead_102 : decode cX11_isRead 102 = .ok (.ldc2_w 116, 3) := by decide +kernel
theorem dX11_isRead_105 : decode cX11_isRead 105 = .ok (.lcmp, 1) := by decide +kernel
theorem dX11_isRead_106 : decode cX11_isRead 106 = .ok (.ifCond .eq 10, 3) := by decide +kernel
theorem dX11_isRead_109 : decode cX11_isRead 109 = .ok (.aload_n 0, 1) := by decide +kernel
theorem dX11_isRead_110 : decode cX11_isRead 110 = .ok (.invokevirtual 138, 3) := by decide +kernel
theorem dX11_isRead_113 : decode cX11_isRead 113 = .ok (.ifCond .eq 7, 3) := by decide +kernel
theorem dX11_isRead_116 : decode cX11_isRead 116 = .ok (.iconst 1, 1) := by decide +kernel
theorem dX11_isRead_117 : decode cX11_isRead 117 = .ok (.goto 4, 3) := by decide +kernel
theorem dX11_isRead_120 : decode cX11_isRead 120 = .ok (.iconst 0, 1) := by decide +kernel
theorem dX11_isRead_121 : decode cX11_isRead 121 = .ok (.ireturn, 1) := by decide +kernel
set_option maxRecDepth 20000 in
theorem ggX11_fault_X11_isRead : GoodIn wsX11_fault wsX11_isRead := goodIn_r _ [6, 7, 8, 9, 10, 11, 12, 13, 14, 15, 16, 17, 18, 19, 20, 5, 21, 22, 23, 24, 25, 26, 27, 28, 29, 30, 31, 32, 33, 34, 35, 36, 37, 38, 39, 40, 41, 42, 43, 44, 45, 46, 47, 48, 49, 50, 51, 52, 53, 54, 55, 56, 57, 58, 59, 1, 60, 61, 62, 63, 64, 65, 66, 67, 68, 69, 70, 71, 72, 73, 74, 75, 76, 77, 78, 79, 80, 81, 82, 83, 84, 85, 86, 87, 88, 89, 90, 91, 92, 93, 94, 95, 96, 97, 98, 99, 100, 101, 102, 103, 104, 105, 106] (by decide +kernel) (by decide +kernel)
set_option maxRecDepth 20000 in
theorem gX11_fault_X11_isRead : GoodIn wsX11_fault (wsV RX11 194 RX11 yX11_isRead wsX11_isRead) := goodIn_app (goodIn_of _ (by decide +kernel)) ggX11_fault_X11_isRead
theorem dX11_fault_0 : decode cX11_fault 0 = .ok (.aload_n 0, 1) := by decide +kernel
theorem dX11_fault_1 : decode cX11_fault 1 = .ok (.invokevirtual 194, 3) := by decide +kernel
theorem dX11_fault_4 : decode cX11_fault 4 = .ok (.ifCond .eq 7, 3) := by decide +kernel
theorem dX11_fault_7 : decode cX11_fault 7 = .ok (.iconst (-1), 1) := by decide +kernel
theorem dX11_fault_8 : decode cX11_fault 8 = .ok (.goto 7, 3) := by decide +kernel
theorem dX11_fault_11 : decode cX11_fault 11 = .ok (.aload_n 0, 1) := by decide +kernel
theorem dX11_fault_12 : decode cX11_fault 12 = .ok (.getfield 132, 3) := by decide +kernel
theorem dX11_fault_15 : decode cX11_fault 15 = .ok (.ireturn, 1) := by decide +kernel
theorem dX11_doLine_0 : decode cX11_doLine 0 = .ok (.aload_n 0, 1) := by decide +kernel
theorem dX11_doLine_1 : decode cX11_doLine 1 = .ok (.getfield 22, 3) := by decide +kernel
theorem dX11_doLine_4 : decode cX11_doLine 4 = .ok (.iload_n 1, 1) := by decide +kernel
theorem dX11_doLine_5 : decode cX11_doLine 5 = .ok (.iaload, 1) := by decide +kernel
theorem dX11_doLine_6 : decode cX11_doLine 6 = .ok (.istore_n 2, 1) := by decide +kernel
theorem dX11_doLine_7 : decode cX11_doLine 7 = .ok (.iload_n 2, 1) := by decide +kernel
theorem dX11_doLine_8 : decode cX11_doLine 8 = .ok (.iconst 4, 1) := by decide +kernel
theorem dX11_doLine_9 : decode cX11_doLine 9 = .ok (.if_icmp .ge 26, 3) := by decide +kernel
theorem dX11_doLine_12 : decode cX11_doLine 12 = .ok (.aload_n 0, 1) := by decide +kernel
theorem dX11_doLine_13 : decode cX11_doLine 13 = .ok (.getfield 7, 3) := by decide +kernel
theorem dX11_doLine_16 : decode cX11_doLine 16 = .ok (.aload_n 0, 1) := by decide +kernel
theorem dX11_doLine_17 : decode cX11_doLine 17 = .ok (.getfield 91, 3) := by decide +kernel
theorem dX11_doLine_20 : decode cX11_doLine 20 = .ok (.iload_n 2, 1) := by decide +kernel
theorem dX11_doLine_21 : decode cX11_doLine 21 = .ok (.iastore, 1) := by decide +kernel
theorem dX11_doLine_22 : decode cX11_doLine 22 = .ok (.aload_n 0, 1) := by decide +kernel
theorem dX11_doLine_23 : decode cX11_doLine 23 = .ok (.dup, 1) := by decide +kernel
theorem dX11_doLine_24 : decode cX11_doLine 24 = .ok (.getfield 91, 3) := by decide +kernel
theorem dX11_doLine_27 : decode cX11_doLine 27 = .ok (.iconst 1, 1) := by decide +kernel
theorem dX11_doLine_28 : decode cX11_doLine 28 = .ok (.iadd, 1) := by decide +kernel
theorem dX11_doLine_29 : decode cX11_doLine 29 = .ok (.putfield 91, 3) := by decide +kernel
theorem dX11_doLine_32 : decode cX11_doLine 32 = .ok (.goto 262, 3) := by decide +kernel
theorem dX11_doLine_35 : decode cX11_doLine 35 = .ok (.iload_n 2, 1) := by decide +kernel
theorem dX11_doLine_36 : decode cX11_doLine 36 = .ok (.bipush 7, 2) := by decide +kernel
theorem dX11_doLine_38 : decode cX11_doLine 38 = .ok (.if_icmp .ge 93, 3) := by decide +kernel
theorem dX11_doLine_41 : decode cX11_doLine 41 = .ok (.aload_n 0, 1) := by decide +kernel
theorem dX11_doLine_42 : decode cX11_doLine 42 = .ok (.getfield 13, 3) := by decide +kernel
theorem dX11_doLine_45 : decode cX11_doLine 45 = .ok (.iconst 4, 1) := by decide +kernel
theorem dX11_doLine_46 : decode cX11_doLine 46 = .ok (.aload_n 0, 1) := by decide +kernel
theorem dX11_doLine_47 : decode cX11_doLine 47 = .ok (.getfield 98, 3) := by decide +kernel
theorem dX11_doLine_50 : decode cX11_doLine 50 = .ok (.imul, 1) := by decide +kernel
theorem dX11_doLine_51 : decode cX11_doLine 51 = .ok (.aload_n 0, 1) := by decide +kernel
theorem dX11_doLine_52 : decode cX11_doLine 52 = .ok (.getfield 22, 3) := by decide +kernel
theorem dX11_doLine_55 : decode cX11_doLine 55 = .ok (.iload_n 1, 1) := by decide +kernel
theorem dX11_doLine_56 : decode cX11_doLine 56 = .ok (.iconst 1, 1) := by decide +kernel
theorem dX11_doLine_57 : decode cX11_doLine 57 = .ok (.iadd, 1) := by decide +kernel
theorem dX11_doLine_58 : decode cX11_doLine 58 = .ok (.iaload, 1) := by decide +kernel
theorem dX11_doLine_59 : decode cX11_doLine 59 = .ok (.iastore, 1) := by decide +kernel
theorem dX11_doLine_60 : decode cX11_doLine 60 = .ok (.aload_n 0, 1) := by decide +kernel
theorem dX11_doLine_61 : decode cX11_doLine 61 = .ok (.getfield 13, 3) := by decide +kernel
theorem dX11_doLine_64 : decode cX11_doLine 64 = .ok (.iconst 4, 1) := by decide +kernel
theorem dX11_doLine_65 : decode cX11_doLine 65 = .ok (.aload_n 0, 1) := by decide +kernel
theorem dX11_doLine_66 : decode cX11_doLine 66 = .ok (.getfield 98, 3) := by decide +kernel
theorem dX11_doLine_69 : decode cX11_doLine 69 = .ok (.imul, 1) := by decide +kernel
theorem dX11_doLine_70 : decode cX11_doLine 70 = .ok (.iconst 1, 1) := by decide +kernel
theorem dX11_doLine_71 : decode cX11_doLine 71 = .ok (.iadd, 1) := by decide +kernel
theorem dX11_doLine_72 : decode cX11_doLine 72 = .ok (.aload_n 0, 1) := by decide +kernel
theorem dX11_doLine_73 : decode cX11_doLine 73 = .ok (.getfield 22, 3) := by decide +kernel
theorem dX11_doLine_76 : decode cX11_doLine 76 = .ok (.iload_n 1, 1) := by decide +kernel
theorem dX11_doLine_77 : decode cX11_doLine 77 = .ok (.iconst 2, 1) := by decide +kernel
theorem dX11_doLine_78 : decode cX11_doLine 78 = .ok (.iadd, 1) := by decide +kernel
theorem dX11_doLine_79 : decode cX11_doLine 79 = .ok (.iaload, 1) := by decide +kernel
theorem dX11_doLine_80 : decode cX11_doLine 80 = .ok (.iastore, 1) := by decide +kernel
theorem dX11_doLine_81 : decode cX11_doLine 81 = .ok (.aload_n 0, 1) := by decide +kernel
theorem dX11_doLine_82 : decode cX11_doLine 82 = .ok (.getfield 13, 3) := by decide +kernel
theorem dX11_doLine_85 : decode cX11_doLine 85 = .ok (.iconst 4, 1) := by decide +kernel
theorem dX11_doLine_86 : decode cX11_doLine 86 = .ok (.aload_n 0, 1) := by decide +kernel
theorem dX11_doLine_87 : decode cX11_doLine 87 = .ok (.getfield 98, 3) := by decide +kernel
theorem dX11_doLine_90 : decode cX11_doLine 90 = .ok (.imul, 1) := by decide +kernel
theorem dX11_doLine_91 : decode cX11_doLine 91 = .ok (.iconst 2, 1) := by decide +kernel
theorem dX11_doLine_92 : decode cX11_doLine 92 = .ok (.iadd, 1) := by decide +kernel
theorem dX11_doLine_93 : decode cX11_doLine 93 = .ok (.aload_n 0, 1) := by decide +kernel
theorem dX11_doLine_94 : decode cX11_doLine 94 = .ok (.getfield 22, 3) := by decide +kernel
theorem dX11_doLine_97 : decode cX11_doLine 97 = .ok (.iload_n 1, 1) := by decide +kernel
theorem dX11_doLine_98 : decode cX11_doLine 98 = .ok (.iconst 3, 1) := by decide +kernel
theorem dX11_doLine_99 : decode cX11_doLine 99 = .ok (.iadd, 1) := by decide +kernel
theorem dX11_doLine_100 : decode cX11_doLine 100 = .ok (.iaload, 1) := by decide +kernel
theorem dX11_doLine_101 : decode cX11_doLine 101 = .ok (.iastore, 1) := by decide +kernel
theorem dX11_doLine_102 : decode cX11_doLine 102 = .ok (.aload_n 0, 1) := by decide +kernel
theorem dX11_doLine_103 : decode cX11_doLine 103 = .ok (.getfield 13, 3) := by decide +kernel
theorem dX11_doLine_106 : decode cX11_doLine 106 = .ok (.iconst 4, 1) := by decide +kernel
theorem dX11_doLine_107 : decode cX11_doLine 107 = .ok (.aload_n 0, 1) := by decide +kernel
theorem dX11_doLine_108 : decode cX11_doLine 108 = .ok (.getfield 98, 3) := by decide +kernel
theorem dX11_doLine_111 : decode cX11_doLine 111 = .ok (.imul, 1) := by decide +kernel
theorem dX11_doLine_112 : decode cX11_doLine 112 = .ok (.iconst 3, 1) := by decide +kernel
theorem dX11_doLine_113 : decode cX11_doLine 113 = .ok (.iadd, 1) := by decide +kernel
theorem dX11_doLine_114 : decode cX11_doLine 114 = .ok (.iload_n 2, 1) := by decide +kernel
theorem dX11_doLine_115 : decode cX11_doLine 115 = .ok (.iconst 4, 1) := by decide +kernel
theorem dX11_doLine_116 : decode cX11_doLine 116 = .ok (.isub, 1) := by decide +kernel
theorem dX11_doLine_117 : decode cX11_doLine 117 = .ok (.iastore, 1) := by decide +kernel
theorem dX11_doLine_118 : decode cX11_doLine 118 = .ok (.aload_n 0, 1) := by decide +kernel
theorem dX11_doLine_119 : decode cX11_doLine 119 = .ok (.dup, 1) := by decide +kernel
theorem dX11_doLine_120 : decode cX11_doLine 120 = .ok (.getfield 98, 3) := by decide +kernel
theorem dX11_doLine_123 : decode cX11_doLine 123 = .ok (.iconst 1, 1) := by decide +kernel
theorem dX11_doLine_124 : decode cX11_doLine 124 = .ok (.iadd, 1) := by decide +kernel
theorem dX11_doLine_125 : decode cX11_doLine 125 = .ok (.putfield 98, 3) := by decide +kernel
theorem dX11_doLine_128 : decode cX11_doLine 128 = .ok (.goto 166, 3) := by decide +kernel
theorem dX11_doLine_131 : decode cX11_doLine 131 = .ok (.iload_n 2, 1) := by decide +kernel
theorem dX11_doLine_132 : decode cX11_doLine 132 = .ok (.bipush 10, 2) := by decide +kernel
theorem dX11_doLine_134 : decode cX11_doLine 134 = .ok (.if_icmp .ge 73, 3) := by decide +kernel
theorem dX11_doLine_137 : decode cX11_doLine 137 = .ok (.aload_n 0, 1) := by decide +kernel
theorem dX11_doLine_138 : decode cX11_doLine 138 = .ok (.getfield 16, 3) := by decide +kernel
theorem dX11_doLine_141 : decode cX11_doLine 141 = .ok (.iconst 3, 1) := by decide +kernel
theorem dX11_doLine_142 : decode cX11_doLine 142 = .ok (.aload_n 0, 1) := by decide +kernel
theorem dX11_doLine_143 : decode cX11_doLine 143 = .ok (.getfield 78, 3) := by decide +kernel
theorem dX11_doLine_146 : decode cX11_doLine 146 = .ok (.imul, 1) := by decide +kernel
theorem dX11_doLine_147 : decode cX11_doLine 147 = .ok (.iload_n 2, 1) := by decide +kernel
theorem dX11_doLine_148 : decode cX11_doLine 148 = .ok (.bipush 7, 2) := by decide +kernel
theorem dX11_doLine_150 : decode cX11_doLine 150 = .ok (.isub, 1) := by decide +kernel
theorem dX11_doLine_151 : decode cX11_doLine 151 = .ok (.iastore, 1) := by decide +kernel
theorem dX11_doLine_152 : decode cX11_doLine 152 = .ok (.aload_n 0, 1) := by decide +kernel
theorem dX11_doLine_153 : decode cX11_doLine 153 = .ok (.getfield 16, 3) := by decide +kernel
theorem dX11_doLine_156 : decode cX11_doLine 156 = .ok (.iconst 3, 1) := by decide +kernel
theorem dX11_doLine_157 : decode cX11_doLine 157 = .ok (.aload_n 0, 1) := by decide +kernel
theorem dX11_doLine_158 : decode cX11_doLine 158 = .ok (.getfield 78, 3) := by decide +kernel
theorem dX11_doLine_161 : decode cX11_doLine 161 = .ok (.imul, 1) := by decide +kernel
theorem dX11_doLine_162 : decode cX11_doLine 162 = .ok (.iconst 1, 1) := by decide +kernel
theorem dX11_doLine_163 : decode cX11_doLine 163 = .ok (.iadd, 1) := by decide +kernel
theorem dX11_doLine_164 : decode cX11_doLine 164 = .ok (.aload_n 0, 1) := by decide +kernel
theorem dX11_doLine_165 : decode cX11_doLine 165 = .ok (.getfield 22, 3) := by decide +kernel
theorem dX11_doLine_168 : decode cX11_doLine 168 = .ok (.iload_n 1, 1) := by decide +kernel
theorem dX11_doLine_169 : decode cX11_doLine 169 = .ok (.iconst 1, 1) := by decide +kernel
theorem dX11_doLine_170 : decode cX11_doLine 170 = .ok (.iadd, 1) := by decide +kernel
theorem dX11_doLine_171 : decode cX11_doLine 171 = .ok (.iaload, 1) := by decide +kernel
theorem dX11_doLine_172 : decode cX11_doLine 172 = .ok (.iastore, 1) := by decide +kernel
theorem dX11_doLine_173 : decode cX11_doLine 173 = .ok (.aload_n 0, 1) := by decide +kernel
theorem dX11_doLine_174 : decode cX11_doLine 174 = .ok (.getfield 16, 3) := by decide +kernel
theorem dX11_doLine_177 : decode cX11_doLine 177 = .ok (.iconst 3, 1) := by decide +kernel
theorem dX11_doLine_178 : decode cX11_doLine 178 = .ok (.aload_n 0, 1) := by decide +kernel
theorem dX11_doLine_179 : decode cX11_doLine 179 = .ok (.getfield 78, 3) := by decide +kernel
theorem dX11_doLine_182 : decode cX11_doLine 182 = .ok (.imul, 1) := by decide +kernel
theorem dX11_doLine_183 : decode cX11_doLine 183 = .ok (.iconst 2, 1) := by decide +kernel
theorem dX11_doLine_184 : decode cX11_doLine 184 = .ok (.iadd, 1) := by decide +kernel
theorem dX11_doLine_185 : decode cX11_doLine 185 = .ok (.aload_n 0, 1) := by decide +kernel
theorem dX11_doLine_186 : decode cX11_doLine 186 = .ok (.getfield 22, 3) := by decide +kernel
theorem dX11_doLine_189 : decode cX11_doLine 189 = .ok (.iload_n 1, 1) := by decide +kernel
theorem dX11_doLine_190 : decode cX11_doLine 190 = .ok (.iconst 2, 1) := by decide +kernel
theorem dX11_doLine_191 : decode cX11_doLine 191 = .ok (.iadd, 1) := by decide +kernel
theorem dX11_doLine_192 : decode cX11_doLine 192 = .ok (.iaload, 1) := by decide +kernel
theorem dX11_doLine_193 : decode cX11_doLine 193 = .ok (.iastore, 1) := by decide +kernel
theorem dX11_doLine_194 : decode cX11_doLine 194 = .ok (.aload_n 0, 1) := by decide +kernel
theorem dX11_doLine_195 : decode cX11_doLine 195 = .ok (.dup, 1) := by decide +kernel
theorem dX11_doLine_196 : decode cX11_doLine 196 = .ok (.getfield 78, 3) := by decide +kernel
theorem dX11_doLine_199 : decode cX11_doLine 199 = .ok (.iconst 1, 1) := by decide +kernel
theorem dX11_doLine_200 : decode cX11_doLine 200 = .ok (.iadd, 1) := by decide +kernel
theorem dX11_doLine_201 : decode cX11_doLine 201 = .ok (.putfield 78, 3) := by decide +kernel
theorem dX11_doLine_204 : decode cX11_doLine 204 = .ok (.goto 90, 3) := by decide +kernel
theorem dX11_doLine_207 : decode cX11_doLine 207 = .ok (.iload_n 2, 1) := by decide +kernel
theorem dX11_doLine_208 : decode cX11_doLine 208 = .ok (.bipush 11, 2) := by decide +kernel
theorem dX11_doLine_210 : decode cX11_doLine 210 = .ok (.if_icmp .ne 25, 3) := by decide +kernel
theorem dX11_doLine_213 : decode cX11_doLine 213 = .ok (.aload_n 0, 1) := by decide +kernel
theorem dX11_doLine_214 : decode cX11_doLine 214 = .ok (.aload_n 0, 1) := by decide +kernel
theorem dX11_doLine_215 : decode cX11_doLine 215 = .ok (.getfield 197, 3) := by decide +kernel
theorem dX11_doLine_218 : decode cX11_doLine 218 = .ok (.lconst 1, 1) := by decide +kernel
theorem dX11_doLine_219 : decode cX11_doLine 219 = .ok (.aload_n 0, 1) := by decide +kernel
theorem dX11_doLine_220 : decode cX11_doLine 220 = .ok (.getfield 22, 3) := by decide +kernel
theorem dX11_doLine_223 : decode cX11_doLine 223 = .ok (.iload_n 1, 1) := by decide +kernel
theorem dX11_doLine_224 : decode cX11_doLine 224 = .ok (.iconst 1, 1) := by decide +kernel
theorem dX11_doLine_225 : decode cX11_doLine 225 = .ok (.iadd, 1) := by decide +kernel
theorem dX11_doLine_226 : decode cX11_doLine 226 = .ok (.iaload, 1) := by decide +kernel
theorem dX11_doLine_227 : decode cX11_doLine 227 = .ok (.lshl, 1) := by decide +kernel
theorem dX11_doLine_228 : decode cX11_doLine 228 = .ok (.lor, 1) := by decide +kernel
theorem dX11_doLine_229 : decode cX11_doLine 229 = .ok (.putfield 197, 3) := by decide +kernel
theorem dX11_doLine_232 : decode cX11_doLine 232 = .ok (.goto 62, 3) := by decide +kernel
theorem dX11_doLine_235 : decode cX11_doLine 235 = .ok (.aload_n 0, 1) := by decide +kernel
theorem dX11_doLine_236 : decode cX11_doLine 236 = .ok (.lconst 0, 1) := by decide +kernel
theorem dX11_doLine_237 : decode cX11_doLine 237 = .ok (.putfield 197, 3) := by decide +kernel
theorem dX11_doLine_240 : decode cX11_doLine 240 = .ok (.aload_n 0, 1) := by decide +kernel
theorem dX11_doLine_241 : decode cX11_doLine 241 = .ok (.iload_n 2, 1) := by decide +kernel
theorem dX11_doLine_242 : decode cX11_doLine 242 = .ok (.bipush 10, 2) := by decide +kernel
theorem dX11_doLine_244 : decode cX11_doLine 244 = .ok (.if_icmp .ne 7, 3) := by decide +kernel
theorem dX11_doLine_247 : decode cX11_doLine 247 = .ok (.iconst 0, 1) := by decide +kernel
theorem dX11_doLine_248 : decode cX11_doLine 248 = .ok (.goto 7, 3) := by decide +kernel
theorem dX11_doLine_251 : decode cX11_doLine 251 = .ok (.aload_n 0, 1) := by decide +kernel
theorem dX11_doLine_252 : decode cX11_doLine 252 = .ok (.getfield 91, 3) := by decide +kernel
theorem dX11_doLine_255 : decode cX11_doLine 255 = .ok (.putfield 91, 3) := by decide +kernel
theorem dX11_doLine_258 : decode cX11_doLine 258 = .ok (.aload_n 0, 1) := by decide +kernel
theorem dX11_doLine_259 : decode cX11_doLine 259 = .ok (.iload_n 2, 1) := by decide +kernel
theorem dX11_doLine_260 : decode cX11_doLine 260 = .ok (.bipush 10, 2) := by decide +kernel
theorem dX11_doLine_262 : decode cX11_doLine 262 = .ok (.if_icmp .ne 7, 3) := by decide +kernel
theorem dX11_doLine_265 : decode cX11_doLine 265 = .ok (.iconst 0, 1) := by decide +kernel
theorem dX11_doLine_266 : decode cX11_doLine 266 = .ok (.goto 7, 3) := by decide +kernel
theorem dX11_doLine_269 : decode cX11_doLine 269 = .ok (.aload_n 0, 1) := by decide +kernel
theorem dX11_doLine_270 : decode cX11_doLine 270 = .ok (.getfield 98, 3) := by decide +kernel
theorem dX11_doLine_273 : decode cX11_doLine 273 = .ok (.putfield 98, 3) := by decide +kernel
theorem dX11_doLine_276 : decode cX11_doLine 276 = .ok (.aload_n 0, 1) := by decide +kernel
theorem dX11_doLine_277 : decode cX11_doLine 277 = .ok (.iload_n 2, 1) := by decide +kernel
theorem dX11_doLine_278 : decode cX11_doLine 278 = .ok (.bipush 10, 2) := by decide +kernel
theorem dX11_doLine_280 : decode cX11_doLine 280 = .ok (.if_icmp .ne 7, 3) := by decide +kernel
theorem dX11_doLine_283 : decode cX11_doLine 283 = .ok (.iconst 0, 1) := by decide +kernel
theorem dX11_doLine_284 : decode cX11_doLine 284 = .ok (.goto 7, 3) := by decide +kernel
theorem dX11_doLine_287 : decode cX11_doLine 287 = .ok (.aload_n 0, 1) := by decide +kernel
theorem dX11_doLine_288 : decode cX11_doLine 288 = .ok (.getfield 78, 3) := by decide +kernel
theorem dX11_doLine_291 : decode cX11_doLine 291 = .ok (.putfield 78, 3) := by decide +kernel
theorem dX11_doLine_294 : decode cX11_doLine 294 = .ok (.return_, 1) := by decide +kernel
set_option maxRecDepth 20000 in
theorem ggX11_land_X11_isRead : GoodIn wsX11_land wsX11_isRead := goodIn_r _ [7, 8, 1, 9, 10, 11, 12, 13, 14, 15, 16, 17, 18, 19, 20, 6, 21, 22, 23, 24, 25, 26, 2, 27, 28, 29, 30, 31, 32, 33, 34, 35, 36, 37, 38, 39, 40, 41, 42, 43, 44, 45, 46, 47, 48, 49, 50, 51, 52, 53, 54, 55, 56, 57, 58, 59, 60, 61, 62, 63, 64, 65, 66, 67, 85, 86, 87, 88, 89, 90, 91, 92, 93, 94, 95, 96, 97, 98, 99, 100, 101, 102, 103, 104, 105, 106, 107, 108, 109, 110, 111, 112, 113, 114, 115, 116, 117, 118, 119, 120, 121, 122, 123] (by decide +kernel) (by decide +kernel)
set_option maxRecDepth 20000 in
theorem gX11_land_X11_isRead : GoodIn wsX11_land (wsV RX11 194 RX11 yX11_isRead wsX11_isRead) := goodIn_app (goodIn_of _ (by decide +kernel)) ggX11_land_X11_isRead
set_option maxRecDepth 20000 in
theorem ggX11_land_X11_doLine : GoodIn wsX11_land wsX11_doLine := goodIn_r _ [71, 22, 72, 9, 73, 11, 74, 13, 75, 85, 86, 87, 88, 89, 90, 91, 92, 93, 94, 95, 96, 97, 98, 99, 100, 101, 102, 103, 104, 105, 106, 107, 108, 109, 110, 111, 112, 113, 114, 115, 116, 117, 118, 119, 120, 121, 122, 123] (by decide +kernel) (by decide +kernel)
set_option maxRecDepth 20000 in
theorem gX11_land_X11_doLine : GoodIn wsX11_land (wsV RX11 200 RX11 yX11_doLine wsX11_doLine) := goodIn_app (goodIn_of _ (by decide +kernel)) ggX11_land_X11_doLine
set_option maxRecDepth 20000 in
theorem ggX11_land_X11_begin : GoodIn wsX11_land wsX11_begin := goodIn_r _ [79, 80, 13, 74, 81, 82, 83, 84, 85, 86, 87, 88, 89, 90, 91, 92, 93, 94, 95, 96, 97, 98, 99, 100, 101, 102, 103, 104, 105, 106, 107, 108, 109, 110, 111, 112, 113, 114, 115, 116, 117, 118, 119, 120, 121, 122, 123] (by decide +kernel) (by decide +kernel)
set_option maxRecDepth 20000 in
theorem gX11_land_X11_begin : GoodIn wsX11_land (wsV RX11 75 RX11 yX11_begin wsX11_begin) := goodIn_app (goodIn_of _ (by decide +kernel)) ggX11_land_X11_begin
theorem dX11_land_0 : decode cX11_land 0 = .ok (.aload_n 0, 1) := by decide +kernel
theorem dX11_land_1 : decode cX11_land 1 = .ok (.invokevirtual 194, 3) := by decide +kernel
theorem dX11_land_4 : decode cX11_land 4 = .ok (.ifCond .ne 6, 3) := by decide +kernel
theorem dX11_land_7 : decode cX11_land 7 = .ok (.bipush (-4), 2) := by decide +kernel
theorem dX11_land_9 : decode cX11_land 9 = .ok (.ireturn, 1) := by decide +kernel
theorem dX11_land_10 : decode cX11_land 10 = .ok (.iconst 0, 1) := by decide +kernel
theorem dX11_land_11 : decode cX11_land 11 = .ok (.istore_n 1, 1) := by decide +kernel
theorem dX11_land_12 : decode cX11_land 12 = .ok (.iload_n 1, 1) := by decide +kernel
theorem dX11_land_13 : decode cX11_land 13 = .ok (.aload_n 0, 1) := by decide +kernel
theorem dX11_land_14 : decode cX11_land 14 = .ok (.getfield 188, 3) := by decide +kernel
theorem dX11_land_17 : decode cX11_land 17 = .ok (.if_icmp .ge 16, 3) := by decide +kernel
theorem dX11_land_20 : decode cX11_land 20 = .ok (.aload_n 0, 1) := by decide +kernel
theorem dX11_land_21 : decode cX11_land 21 = .ok (.iconst 4, 1) := by decide +kernel
theorem dX11_land_22 : decode cX11_land 22 = .ok (.iload_n 1, 1) := by decide +kernel
theorem dX11_land_23 : decode cX11_land 23 = .ok (.imul, 1) := by decide +kernel
theorem dX11_land_24 : decode cX11_land 24 = .ok (.invokevirtual 200, 3) := by decide +kernel
theorem dX11_land_27 : decode cX11_land 27 = .ok (.iinc 1 1, 3) := by decide +kernel
theorem dX11_land_30 : decode cX11_land 30 = .ok (.goto (-18), 3) := by decide +kernel
theorem dX11_land_33 : decode cX11_land 33 = .ok (.aload_n 0, 1) := by decide +kernel
theorem dX11_land_34 : decode cX11_land 34 = .ok (.iconst 0, 1) := by decide +kernel
theorem dX11_land_35 : decode cX11_land 35 = .ok (.putfield 101, 3) := by decide +kernel
theorem dX11_land_38 : decode cX11_land 38 = .ok (.aload_n 0, 1) := by decide +kernel
theorem dX11_land_39 : decode cX11_land 39 = .ok (.invokevirtual 75, 3) := by decide +kernel
theorem dX11_land_42 : decode cX11_land 42 = .ok (.aload_n 0, 1) := by decide +kernel
theorem dX11_land_43 : decode cX11_land 43 = .ok (.getfield 188, 3) := by decide +kernel
theorem dX11_land_46 : decode cX11_land 46 = .ok (.ireturn, 1) := by decide +kernel
theorem dX11_root_0 : decode cX11_root 0 = .ok (.iconst 0, 1) := by decide +kernel
theorem dX11_root_1 : decode cX11_root 1 = .ok (.istore_n 1, 1) := by decide +kernel
theorem dX11_root_2 : decode cX11_root 2 = .ok (.iload_n 1, 1) := by decide +kernel
theorem dX11_root_3 : decode cX11_root 3 = .ok (.iconst 1, 1) := by decide +kernel
theorem dX11_root_4 : decode cX11_root 4 = .ok (.iadd, 1) := by decide +kernel
theorem dX11_root_5 : decode cX11_root 5 = .ok (.iload_n 1, 1) := by decide +kernel
theorem dX11_root_6 : decode cX11_root 6 = .ok (.iconst 1, 1) := by decide +kernel
theorem dX11_root_7 : decode cX11_root 7 = .ok (.iadd, 1) := by decide +kernel
theorem dX11_root_8 : decode cX11_root 8 = .ok (.imul, 1) := by decide +kernel
theorem dX11_root_9 : decode cX11_root 9 = .ok (.iload_n 0, 1) := by decide +kernel
theorem dX11_root_10 : decode cX11_root 10 = .ok (.if_icmp .gt 9, 3) := by decide +kernel
theorem dX11_root_13 : decode cX11_root 13 = .ok (.iinc 1 1, 3) := by decide +kernel
theorem dX11_root_16 : decode cX11_root 16 = .ok (.goto (-14), 3) := by decide +kernel
theorem dX11_root_19 : decode cX11_root 19 = .ok (.iload_n 1, 1) := by decide +kernel
theorem dX11_root_20 : decode cX11_root 20 = .ok (.ireturn, 1) := by decide +kernel
set_option maxRecDepth 20000 in
theorem ggX11_loses_X11_root : GoodIn wsX11_loses wsX11_root := goodIn_r _ [4] (by decide +kernel) (by decide +kernel)
set_option maxRecDepth 20000 in
theorem gX11_loses_X11_root : GoodIn wsX11_loses (va_wsS RX11 204 yX11_root wsX11_root) := goodIn_app (goodIn_of _ (by decide +kernel)) ggX11_loses_X11_root
set_option maxRecDepth 20000 in
theorem ggX11_loses_X11_in : GoodIn wsX11_loses wsX11_in := goodIn_r _ [7] (by decide +kernel) (by decide +kernel)
set_option maxRecDepth 20000 in
theorem gX11_loses_X11_in : GoodIn wsX11_loses (va_wsS RX11 94 yX11_in wsX11_in) := goodIn_app (goodIn_of _ (by decide +kernel)) ggX11_loses_X11_in
theorem dX11_loses_0 : decode cX11_loses 0 = .ok (.iload_n 0, 1) := by decide +kernel
theorem dX11_loses_1 : decode cX11_loses 1 = .ok (.ifCond .ne 5, 3) := by decide +kernel
theorem dX11_loses_4 : decode cX11_loses 4 = .ok (.iconst 0, 1) := by decide +kernel
theorem dX11_loses_5 : decode cX11_loses 5 = .ok (.ireturn, 1) := by decide +kernel
theorem dX11_loses_6 : decode cX11_loses 6 = .ok (.iload_n 0, 1) := by decide +kernel
theorem dX11_loses_7 : decode cX11_loses 7 = .ok (.invokestatic 204, 3) := by decide +kernel
theorem dX11_loses_10 : decode cX11_loses 10 = .ok (.iconst 1, 1) := by decide +kernel
theorem dX11_loses_11 : decode cX11_loses 11 = .ok (.iadd, 1) := by decide +kernel
theorem dX11_loses_12 : decode cX11_loses 12 = .ok (.iload_n 1, 1) := by decide +kernel
theorem dX11_loses_13 : decode cX11_loses 13 = .ok (.isub, 1) := by decide +kernel
theorem dX11_loses_14 : decode cX11_loses 14 = .ok (.iload_n 2, 1) := by decide +kernel
theorem dX11_loses_15 : decode cX11_loses 15 = .ok (.isub, 1) := by decide +kernel
theorem dX11_loses_16 : decode cX11_loses 16 = .ok (.istore 6, 2) := by decide +kernel
theorem dX11_loses_18 : decode cX11_loses 18 = .ok (.iload 6, 2) := by decide +kernel
theorem dX11_loses_20 : decode cX11_loses 20 = .ok (.ifCond .ge 7, 3) := by decide +kernel
theorem dX11_loses_23 : decode cX11_loses 23 = .ok (.iconst 0, 1) := by decide +kernel
theorem dX11_loses_24 : decode cX11_loses 24 = .ok (.goto 5, 3) := by decide +kernel
theorem dX11_loses_27 : decode cX11_loses 27 = .ok (.iload 6, 2) := by decide +kernel
theorem dX11_loses_29 : decode cX11_loses 29 = .ok (.istore 6, 2) := by decide +kernel
theorem dX11_loses_31 : decode cX11_loses 31 = .ok (.iload 6, 2) := by decide +kernel
theorem dX11_loses_33 : decode cX11_loses 33 = .ok (.iload 4, 2) := by decide +kernel
theorem dX11_loses_35 : decode cX11_loses 35 = .ok (.ifCond .eq 7, 3) := by decide +kernel
theorem dX11_loses_38 : decode cX11_loses 38 = .ok (.iconst 2, 1) := by decide +kernel
theorem dX11_loses_39 : decode cX11_loses 39 = .ok (.goto 4, 3) := by decide +kernel
theorem dX11_loses_42 : decode cX11_loses 42 = .ok (.iconst 0, 1) := by decide +kernel
theorem dX11_loses_43 : decode cX11_loses 43 = .ok (.iadd, 1) := by decide +kernel
theorem dX11_loses_44 : decode cX11_loses 44 = .ok (.istore 6, 2) := by decide +kernel
theorem dX11_loses_46 : decode cX11_loses 46 = .ok (.iload_n 3, 1) := by decide +kernel
theorem dX11_loses_47 : decode cX11_loses 47 = .ok (.bipush 24, 2) := by decide +kernel
theorem dX11_loses_49 : decode cX11_loses 49 = .ok (.irem, 1) := by decide +kernel
theorem dX11_loses_50 : decode cX11_loses 50 = .ok (.bipush 10, 2) := by decide +kernel
theorem dX11_loses_52 : decode cX11_loses 52 = .ok (.bipush 15, 2) := by decide +kernel
theorem dX11_loses_54 : decode cX11_loses 54 = .ok (.invokestatic 94, 3) := by decide +kernel
theorem dX11_loses_57 : decode cX11_loses 57 = .ok (.ifCond .eq 10, 3) := by decide +kernel
theorem dX11_loses_60 : decode cX11_loses 60 = .ok (.iconst 2, 1) := by decide +kernel
theorem dX11_loses_61 : decode cX11_loses 61 = .ok (.iload 6, 2) := by decide +kernel
theorem dX11_loses_63 : decode cX11_loses 63 = .ok (.imul, 1) := by decide +kernel
theorem dX11_loses_64 : decode cX11_loses 64 = .ok (.goto 5, 3) := by decide +kernel
theorem dX11_loses_67 : decode cX11_loses 67 = .ok (.iload 6, 2) := by decide +kernel
theorem dX11_loses_69 : decode cX11_loses 69 = .ok (.istore 6, 2) := by decide +kernel
theorem dX11_loses_71 : decode cX11_loses 71 = .ok (.iload 5, 2) := by decide +kernel
theorem dX11_loses_73 : decode cX11_loses 73 = .ok (.ifCond .eq 10, 3) := by decide +kernel
theorem dX11_loses_76 : decode cX11_loses 76 = .ok (.iload 6, 2) := by decide +kernel
theorem dX11_loses_78 : decode cX11_loses 78 = .ok (.iconst 2, 1) := by decide +kernel
theorem dX11_loses_79 : decode cX11_loses 79 = .ok (.idiv, 1) := by decide +kernel
theorem dX11_loses_80 : decode cX11_loses 80 = .ok (.goto 5, 3) := by decide +kernel
theorem dX11_loses_83 : decode cX11_loses 83 = .ok (.iload 6, 2) := by decide +kernel
theorem dX11_loses_85 : decode cX11_loses 85 = .ok (.istore 6, 2) := by decide +kernel
theorem dX11_loses_87 : decode cX11_loses 87 = .ok (.iload 6, 2) := by decide +kernel
theorem dX11_loses_89 : decode cX11_loses 89 = .ok (.iload_n 0, 1) := by decide +kernel
theorem dX11_loses_90 : decode cX11_loses 90 = .ok (.if_icmp .le 7, 3) := by decide +kernel
theorem dX11_loses_93 : decode cX11_loses 93 = .ok (.iload_n 0, 1) := by decide +kernel
theorem dX11_loses_94 : decode cX11_loses 94 = .ok (.goto 5, 3) := by decide +kernel
theorem dX11_loses_97 : decode cX11_loses 97 = .ok (.iload 6, 2) := by decide +kernel
theorem dX11_loses_99 : decode cX11_loses 99 = .ok (.ireturn, 1) := by decide +kernel
theorem dX11_isWarm_0 : decode cX11_isWarm 0 = .ok (.iload_n 1, 1) := by decide +kernel
theorem dX11_isWarm_1 : decode cX11_isWarm 1 = .ok (.bipush 48, 2) := by decide +kernel
theorem dX11_isWarm_3 : decode cX11_isWarm 3 = .ok (.if_icmp .ge 20, 3) := by decide +kernel
theorem dX11_isWarm_6 : decode cX11_isWarm 6 = .ok (.aload_n 0, 1) := by decide +kernel
theorem dX11_isWarm_7 : decode cX11_isWarm 7 = .ok (.getfield 197, 3) := by decide +kernel
theorem dX11_isWarm_10 : decode cX11_isWarm 10 = .ok (.iload_n 1, 1) := by decide +kernel
theorem dX11_isWarm_11 : decode cX11_isWarm 11 = .ok (.lshr, 1) := by decide +kernel
theorem dX11_isWarm_12 : decode cX11_isWarm 12 = .ok (.lconst 1, 1) := by decide +kernel
theorem dX11_isWarm_13 : decode cX11_isWarm 13 = .ok (.land, 1) := by decide +kernel
theorem dX11_isWarm_14 : decode cX11_isWarm 14 = .ok (.lconst 1, 1) := by decide +kernel
theorem dX11_isWarm_15 : decode cX11_isWarm 15 = .ok (.lcmp, 1) := by decide +kernel
theorem dX11_isWarm_16 : decode cX11_isWarm 16 = .ok (.ifCond .ne 7, 3) := by decide +kernel
theorem dX11_isWarm_19 : decode cX11_isWarm 19 = .ok (.iconst 1, 1) := by decide +kernel
theorem dX11_isWarm_20 : decode cX11_isWarm 20 = .ok (.goto 4, 3) := by decide +kernel
theorem dX11_isWarm_23 : decode cX11_isWarm 23 = .ok (.iconst 0, 1) := by decide +kernel
theorem dX11_isWarm_24 : decode cX11_isWarm 24 = .ok (.ireturn, 1) := by decide +kernel
set_option maxRecDepth 20000 in
theorem ggX11_restedBy_X11_isWarm : GoodIn wsX11_restedBy wsX11_isWarm := goodIn_r _ [6, 7, 17, 18, 19, 20, 21, 22, 23, 24, 25, 26, 27, 28, 29, 30, 31, 32, 33, 34, 35, 36, 37, 38, 39, 40, 41, 42, 43, 44, 45, 46, 47, 48, 49, 50, 51, 52, 53, 54, 55] (by decide +kernel) (by decide +kernel)
set_option maxRecDepth 20000 in
theorem gX11_restedBy_X11_isWarm : GoodIn wsX11_restedBy (wsV RX11 208 RX11 yX11_isWarm wsX11_isWarm) := goodIn_app (goodIn_of _ (by decide +kernel)) ggX11_restedBy_X11_isWarm
set_option maxRecDepth 20000 in
theorem ggX11_restedBy_X11_loses : GoodIn wsX11_restedBy wsX11_loses := goodIn_r _ [10, 11, 12, 5, 13, 14, 15, 16] (by decide +kernel) (by decide +kernel)
set_option maxRecDepth 20000 in
theorem gX11_restedBy_X11_loses : GoodIn wsX11_restedBy (va_wsS RX11 211 yX11_loses wsX11_loses) := goodIn_app (goodIn_of _ (by decide +kernel)) ggX11_restedBy_X11_loses
theorem dX11_restedBy_0 : decode cX11_restedBy 0 = .ok (.aload_n 0, 1) := by decide +kernel
theorem dX11_restedBy_1 : decode cX11_restedBy 1 = .ok (.getfield 7, 3) := by decide +kernel
theorem dX11_restedBy_4 : decode cX11_restedBy 4 = .ok (.iload 5, 2) := by decide +kernel
theorem dX11_restedBy_6 : decode cX11_restedBy 6 = .ok (.iaload, 1) := by decide +kernel
theorem dX11_restedBy_7 : decode cX11_restedBy 7 = .ok (.iconst 2, 1) := by decide +kernel
theorem dX11_restedBy_8 : decode cX11_restedBy 8 = .ok (.if_icmp .ne 7, 3) := by decide +kernel
theorem dX11_restedBy_11 : decode cX11_restedBy 11 = .ok (.iload_n 1, 1) := by decide +kernel
theorem dX11_restedBy_12 : decode cX11_restedBy 12 = .ok (.goto 20, 3) := by decide +kernel
theorem dX11_restedBy_15 : decode cX11_restedBy 15 = .ok (.iload_n 1, 1) := by decide +kernel
theorem dX11_restedBy_16 : decode cX11_restedBy 16 = .ok (.iload_n 1, 1) := by decide +kernel
theorem dX11_restedBy_17 : decode cX11_restedBy 17 = .ok (.iload_n 2, 1) := by decide +kernel
theorem dX11_restedBy_18 : decode cX11_restedBy 18 = .ok (.iload_n 3, 1) := by decide +kernel
theorem dX11_restedBy_19 : decode cX11_restedBy 19 = .ok (.iload 4, 2) := by decide +kernel
theorem dX11_restedBy_21 : decode cX11_restedBy 21 = .ok (.aload_n 0, 1) := by decide +kernel
theorem dX11_restedBy_22 : decode cX11_restedBy 22 = .ok (.iload 4, 2) := by decide +kernel
theorem dX11_restedBy_24 : decode cX11_restedBy 24 = .ok (.invokevirtual 208, 3) := by decide +kernel
theorem dX11_restedBy_27 : decode cX11_restedBy 27 = .ok (.iconst 0, 1) := by decide +kernel
theorem dX11_restedBy_28 : decode cX11_restedBy 28 = .ok (.invokestatic 211, 3) := by decide +kernel
theorem dX11_restedBy_31 : decode cX11_restedBy 31 = .ok (.isub, 1) := by decide +kernel
theorem dX11_restedBy_32 : decode cX11_restedBy 32 = .ok (.ireturn, 1) := by decide +kernel
set_option maxRecDepth 20000 in
theorem ggX11_comesBy_X11_isWarm : GoodIn wsX11_comesBy wsX11_isWarm := goodIn_r _ [6, 7, 17, 18, 19, 20, 21, 22, 23, 24, 25, 26, 27, 28, 29, 30, 31, 32, 33, 34, 35, 36, 37, 38, 39, 40, 41, 42, 43, 44, 45, 46, 47, 48, 49, 50, 51, 52, 53, 54, 55] (by decide +kernel) (by decide +kernel)
set_option maxRecDepth 20000 in
theorem gX11_comesBy_X11_isWarm : GoodIn wsX11_comesBy (wsV RX11 208 RX11 yX11_isWarm wsX11_isWarm) := goodIn_app (goodIn_of _ (by decide +kernel)) ggX11_comesBy_X11_isWarm
set_option maxRecDepth 20000 in
theorem ggX11_comesBy_X11_loses : GoodIn wsX11_comesBy wsX11_loses := goodIn_r _ [10, 11, 12, 5, 13, 14, 15, 16] (by decide +kernel) (by decide +kernel)
set_option maxRecDepth 20000 in
theorem gX11_comesBy_X11_loses : GoodIn wsX11_comesBy (va_wsS RX11 211 yX11_loses wsX11_loses) := goodIn_app (goodIn_of _ (by decide +kernel)) ggX11_comesBy_X11_loses
theorem dX11_comesBy_0 : decode cX11_comesBy 0 = .ok (.iload_n 2, 1) := by decide +kernel
theorem dX11_comesBy_1 : decode cX11_comesBy 1 = .ok (.istore 6, 2) := by decide +kernel
theorem dX11_comesBy_3 : decode cX11_comesBy 3 = .ok (.iconst 0, 1) := by decide +kernel
theorem dX11_comesBy_4 : decode cX11_comesBy 4 = .ok (.istore 7, 2) := by decide +kernel
theorem dX11_comesBy_6 : decode cX11_comesBy 6 = .ok (.iload 7, 2) := by decide +kernel
theorem dX11_comesBy_8 : decode cX11_comesBy 8 = .ok (.aload_n 0, 1) := by decide +kernel
theorem dX11_comesBy_9 : decode cX11_comesBy 9 = .ok (.getfield 13, 3) := by decide +kernel
theorem dX11_comesBy_12 : decode cX11_comesBy 12 = .ok (.iconst 4, 1) := by decide +kernel
theorem dX11_comesBy_13 : decode cX11_comesBy 13 = .ok (.iload_n 1, 1) := by decide +kernel
theorem dX11_comesBy_14 : decode cX11_comesBy 14 = .ok (.imul, 1) := by decide +kernel
theorem dX11_comesBy_15 : decode cX11_comesBy 15 = .ok (.iconst 2, 1) := by decide +kernel
theorem dX11_comesBy_16 : decode cX11_comesBy 16 = .ok (.iadd, 1) := by decide +kernel
theorem dX11_comesBy_17 : decode cX11_comesBy 17 = .ok (.iaload, 1) := by decide +kernel
theorem dX11_comesBy_18 : decode cX11_comesBy 18 = .ok (.if_icmp .ge 55, 3) := by decide +kernel
theorem dX11_comesBy_21 : decode cX11_comesBy 21 = .ok (.iload 6, 2) := by decide +kernel
theorem dX11_comesBy_23 : decode cX11_comesBy 23 = .ok (.iload 6, 2) := by decide +kernel
theorem dX11_comesBy_25 : decode cX11_comesBy 25 = .ok (.iload_n 3, 1) := by decide +kernel
theorem dX11_comesBy_26 : decode cX11_comesBy 26 = .ok (.iload 4, 2) := by decide +kernel
theorem dX11_comesBy_28 : decode cX11_comesBy 28 = .ok (.iload 5, 2) := by decide +kernel
theorem dX11_comesBy_30 : decode cX11_comesBy 30 = .ok (.iload 7, 2) := by decide +kernel
theorem dX11_comesBy_32 : decode cX11_comesBy 32 = .ok (.iadd, 1) := by decide +kernel
theorem dX11_comesBy_33 : decode cX11_comesBy 33 = .ok (.aload_n 0, 1) := by decide +kernel
theorem dX11_comesBy_34 : decode cX11_comesBy 34 = .ok (.iload 5, 2) := by decide +kernel
theorem dX11_comesBy_36 : decode cX11_comesBy 36 = .ok (.iload 7, 2) := by decide +kernel
theorem dX11_comesBy_38 : decode cX11_comesBy 38 = .ok (.iadd, 1) := by decide +kernel
theorem dX11_comesBy_39 : decode cX11_comesBy 39 = .ok (.invokevirtual 208, 3) := by decide +kernel
theorem dX11_comesBy_42 : decode cX11_comesBy 42 = .ok (.aload_n 0, 1) := by decide +kernel
theorem dX11_comesBy_43 : decode cX11_comesBy 43 = .ok (.getfield 13, 3) := by decide +kernel
theorem dX11_comesBy_46 : decode cX11_comesBy 46 = .ok (.iconst 4, 1) := by decide +kernel
theorem dX11_comesBy_47 : decode cX11_comesBy 47 = .ok (.iload_n 1, 1) := by decide +kernel
theorem dX11_comesBy_48 : decode cX11_comesBy 48 = .ok (.imul, 1) := by decide +kernel
theorem dX11_comesBy_49 : decode cX11_comesBy 49 = .ok (.iconst 3, 1) := by decide +kernel
theorem dX11_comesBy_50 : decode cX11_comesBy 50 = .ok (.iadd, 1) := by decide +kernel
theorem dX11_comesBy_51 : decode cX11_comesBy 51 = .ok (.iaload, 1) := by decide +kernel
theorem dX11_comesBy_52 : decode cX11_comesBy 52 = .ok (.iconst 1, 1) := by decide +kernel
theorem dX11_comesBy_53 : decode cX11_comesBy 53 = .ok (.if_icmp .ne 7, 3) := by decide +kernel
theorem dX11_comesBy_56 : decode cX11_comesBy 56 = .ok (.iconst 1, 1) := by decide +kernel
theorem dX11_comesBy_57 : decode cX11_comesBy 57 = .ok (.goto 4, 3) := by decide +kernel
theorem dX11_comesBy_60 : decode cX11_comesBy 60 = .ok (.iconst 0, 1) := by decide +kernel
theorem dX11_comesBy_61 : decode cX11_comesBy 61 = .ok (.invokestatic 211, 3) := by decide +kernel
theorem dX11_comesBy_64 : decode cX11_comesBy 64 = .ok (.isub, 1) := by decide +kernel
theorem dX11_comesBy_65 : decode cX11_comesBy 65 = .ok (.istore 6, 2) := by decide +kernel
theorem dX11_comesBy_67 : decode cX11_comesBy 67 = .ok (.iinc 7 1, 3) := by decide +kernel
theorem dX11_comesBy_70 : decode cX11_comesBy 70 = .ok (.goto (-64), 3) := by decide +kernel
theorem dX11_comesBy_73 : decode cX11_comesBy 73 = .ok (.aload_n 0, 1) := by decide +kernel
theorem dX11_comesBy_74 : decode cX11_comesBy 74 = .ok (.getfield 13, 3) := by decide +kernel
theorem dX11_comesBy_77 : decode cX11_comesBy 77 = .ok (.iconst 4, 1) := by decide +kernel
theorem dX11_comesBy_78 : decode cX11_comesBy 78 = .ok (.iload_n 1, 1) := by decide +kernel
