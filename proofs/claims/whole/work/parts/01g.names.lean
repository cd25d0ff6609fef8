theorem dX11_comesBy_79 : decode cX11_comesBy 79 = .ok (.imul, 1) := by decide +kernel
theorem dX11_comesBy_80 : decode cX11_comesBy 80 = .ok (.iconst 3, 1) := by decide +kernel
theorem dX11_comesBy_81 : decode cX11_comesBy 81 = .ok (.iadd, 1) := by decide +kernel
theorem dX11_comesBy_82 : decode cX11_comesBy 82 = .ok (.iaload, 1) := by decide +kernel
theorem dX11_comesBy_83 : decode cX11_comesBy 83 = .ok (.iconst 2, 1) := by decide +kernel
theorem dX11_comesBy_84 : decode cX11_comesBy 84 = .ok (.if_icmp .ne 14, 3) := by decide +kernel
theorem dX11_comesBy_87 : decode cX11_comesBy 87 = .ok (.iload 6, 2) := by decide +kernel
theorem dX11_comesBy_89 : decode cX11_comesBy 89 = .ok (.iload 6, 2) := by decide +kernel
theorem dX11_comesBy_91 : decode cX11_comesBy 91 = .ok (.bipush 10, 2) := by decide +kernel
theorem dX11_comesBy_93 : decode cX11_comesBy 93 = .ok (.idiv, 1) := by decide +kernel
theorem dX11_comesBy_94 : decode cX11_comesBy 94 = .ok (.isub, 1) := by decide +kernel
theorem dX11_comesBy_95 : decode cX11_comesBy 95 = .ok (.goto 5, 3) := by decide +kernel
theorem dX11_comesBy_98 : decode cX11_comesBy 98 = .ok (.iload 6, 2) := by decide +kernel
theorem dX11_comesBy_100 : decode cX11_comesBy 100 = .ok (.ireturn, 1) := by decide +kernel
theorem dX11_endOf_0 : decode cX11_endOf 0 = .ok (.aload_n 0, 1) := by decide +kernel
theorem dX11_endOf_1 : decode cX11_endOf 1 = .ok (.getfield 13, 3) := by decide +kernel
theorem dX11_endOf_4 : decode cX11_endOf 4 = .ok (.iconst 4, 1) := by decide +kernel
theorem dX11_endOf_5 : decode cX11_endOf 5 = .ok (.iload_n 1, 1) := by decide +kernel
theorem dX11_endOf_6 : decode cX11_endOf 6 = .ok (.imul, 1) := by decide +kernel
theorem dX11_endOf_7 : decode cX11_endOf 7 = .ok (.iaload, 1) := by decide +kernel
theorem dX11_endOf_8 : decode cX11_endOf 8 = .ok (.iload_n 2, 1) := by decide +kernel
theorem dX11_endOf_9 : decode cX11_endOf 9 = .ok (.if_icmp .ne 16, 3) := by decide +kernel
theorem dX11_endOf_12 : decode cX11_endOf 12 = .ok (.aload_n 0, 1) := by decide +kernel
theorem dX11_endOf_13 : decode cX11_endOf 13 = .ok (.getfield 13, 3) := by decide +kernel
theorem dX11_endOf_16 : decode cX11_endOf 16 = .ok (.iconst 4, 1) := by decide +kernel
theorem dX11_endOf_17 : decode cX11_endOf 17 = .ok (.iload_n 1, 1) := by decide +kernel
theorem dX11_endOf_18 : decode cX11_endOf 18 = .ok (.imul, 1) := by decide +kernel
theorem dX11_endOf_19 : decode cX11_endOf 19 = .ok (.iconst 1, 1) := by decide +kernel
theorem dX11_endOf_20 : decode cX11_endOf 20 = .ok (.iadd, 1) := by decide +kernel
theorem dX11_endOf_21 : decode cX11_endOf 21 = .ok (.iaload, 1) := by decide +kernel
theorem dX11_endOf_22 : decode cX11_endOf 22 = .ok (.goto 29, 3) := by decide +kernel
theorem dX11_endOf_25 : decode cX11_endOf 25 = .ok (.aload_n 0, 1) := by decide +kernel
theorem dX11_endOf_26 : decode cX11_endOf 26 = .ok (.getfield 13, 3) := by decide +kernel
theorem dX11_endOf_29 : decode cX11_endOf 29 = .ok (.iconst 4, 1) := by decide +kernel
theorem dX11_endOf_30 : decode cX11_endOf 30 = .ok (.iload_n 1, 1) := by decide +kernel
theorem dX11_endOf_31 : decode cX11_endOf 31 = .ok (.imul, 1) := by decide +kernel
theorem dX11_endOf_32 : decode cX11_endOf 32 = .ok (.iconst 1, 1) := by decide +kernel
theorem dX11_endOf_33 : decode cX11_endOf 33 = .ok (.iadd, 1) := by decide +kernel
theorem dX11_endOf_34 : decode cX11_endOf 34 = .ok (.iaload, 1) := by decide +kernel
theorem dX11_endOf_35 : decode cX11_endOf 35 = .ok (.iload_n 2, 1) := by decide +kernel
theorem dX11_endOf_36 : decode cX11_endOf 36 = .ok (.if_icmp .ne 14, 3) := by decide +kernel
theorem dX11_endOf_39 : decode cX11_endOf 39 = .ok (.aload_n 0, 1) := by decide +kernel
theorem dX11_endOf_40 : decode cX11_endOf 40 = .ok (.getfield 13, 3) := by decide +kernel
theorem dX11_endOf_43 : decode cX11_endOf 43 = .ok (.iconst 4, 1) := by decide +kernel
theorem dX11_endOf_44 : decode cX11_endOf 44 = .ok (.iload_n 1, 1) := by decide +kernel
theorem dX11_endOf_45 : decode cX11_endOf 45 = .ok (.imul, 1) := by decide +kernel
theorem dX11_endOf_46 : decode cX11_endOf 46 = .ok (.iaload, 1) := by decide +kernel
theorem dX11_endOf_47 : decode cX11_endOf 47 = .ok (.goto 4, 3) := by decide +kernel
theorem dX11_endOf_50 : decode cX11_endOf 50 = .ok (.iconst (-1), 1) := by decide +kernel
theorem dX11_endOf_51 : decode cX11_endOf 51 = .ok (.ireturn, 1) := by decide +kernel
theorem dX11_priceIn_0 : decode cX11_priceIn 0 = .ok (.iload_n 0, 1) := by decide +kernel
theorem dX11_priceIn_1 : decode cX11_priceIn 1 = .ok (.bipush 24, 2) := by decide +kernel
theorem dX11_priceIn_3 : decode cX11_priceIn 3 = .ok (.irem, 1) := by decide +kernel
theorem dX11_priceIn_4 : decode cX11_priceIn 4 = .ok (.istore_n 1, 1) := by decide +kernel
theorem dX11_priceIn_5 : decode cX11_priceIn 5 = .ok (.iload_n 1, 1) := by decide +kernel
theorem dX11_priceIn_6 : decode cX11_priceIn 6 = .ok (.bipush 6, 2) := by decide +kernel
theorem dX11_priceIn_8 : decode cX11_priceIn 8 = .ok (.if_icmp .ge 7, 3) := by decide +kernel
theorem dX11_priceIn_11 : decode cX11_priceIn 11 = .ok (.iconst 4, 1) := by decide +kernel
theorem dX11_priceIn_12 : decode cX11_priceIn 12 = .ok (.goto 24, 3) := by decide +kernel
theorem dX11_priceIn_15 : decode cX11_priceIn 15 = .ok (.iload_n 1, 1) := by decide +kernel
theorem dX11_priceIn_16 : decode cX11_priceIn 16 = .ok (.bipush 12, 2) := by decide +kernel
theorem dX11_priceIn_18 : decode cX11_priceIn 18 = .ok (.if_icmp .ge 7, 3) := by decide +kernel
theorem dX11_priceIn_21 : decode cX11_priceIn 21 = .ok (.iconst 3, 1) := by decide +kernel
theorem dX11_priceIn_22 : decode cX11_priceIn 22 = .ok (.goto 14, 3) := by decide +kernel
theorem dX11_priceIn_25 : decode cX11_priceIn 25 = .ok (.iload_n 1, 1) := by decide +kernel
theorem dX11_priceIn_26 : decode cX11_priceIn 26 = .ok (.bipush 18, 2) := by decide +kernel
theorem dX11_priceIn_28 : decode cX11_priceIn 28 = .ok (.if_icmp .ge 7, 3) := by decide +kernel
theorem dX11_priceIn_31 : decode cX11_priceIn 31 = .ok (.iconst 5, 1) := by decide +kernel
theorem dX11_priceIn_32 : decode cX11_priceIn 32 = .ok (.goto 4, 3) := by decide +kernel
theorem dX11_priceIn_35 : decode cX11_priceIn 35 = .ok (.iconst 2, 1) := by decide +kernel
theorem dX11_priceIn_36 : decode cX11_priceIn 36 = .ok (.ireturn, 1) := by decide +kernel
set_option maxRecDepth 20000 in
theorem ggX11_place_X11_isPlace : GoodIn wsX11_place wsX11_isPlace := goodIn_r _ [9, 10, 11, 12, 8, 13, 19, 20, 21, 22, 23, 24, 25, 26, 27, 28, 29, 30, 31, 32, 33, 34, 35, 36, 37, 38, 39, 40, 41, 42, 43, 44, 45, 46, 47, 48, 49, 50, 51, 52, 53, 54, 55, 56, 57] (by decide +kernel) (by decide +kernel)
set_option maxRecDepth 20000 in
theorem gX11_place_X11_isPlace : GoodIn wsX11_place (wsV RX11 215 RX11 yX11_isPlace wsX11_isPlace) := goodIn_app (goodIn_of _ (by decide +kernel)) ggX11_place_X11_isPlace
set_option maxRecDepth 20000 in
theorem ggX11_place_X11_endOf : GoodIn wsX11_place wsX11_endOf := goodIn_r _ [17, 18, 19, 20, 21, 22, 23, 24, 25, 26, 27, 28, 29, 30, 31, 32, 33, 34, 35, 36, 37, 38, 39, 40, 41, 42, 43, 44, 45, 46, 47, 48, 49, 50, 51, 52, 53, 54, 55, 56, 57] (by decide +kernel) (by decide +kernel)
set_option maxRecDepth 20000 in
theorem gX11_place_X11_endOf : GoodIn wsX11_place (wsV RX11 218 RX11 yX11_endOf wsX11_endOf) := goodIn_app (goodIn_of _ (by decide +kernel)) ggX11_place_X11_endOf
set_option maxRecDepth 20000 in
theorem ggX11_place_X11_in : GoodIn wsX11_place wsX11_in := goodIn_r _ [13] (by decide +kernel) (by decide +kernel)
set_option maxRecDepth 20000 in
theorem gX11_place_X11_in : GoodIn wsX11_place (va_wsS RX11 94 yX11_in wsX11_in) := goodIn_app (goodIn_of _ (by decide +kernel)) ggX11_place_X11_in
theorem dX11_place_0 : decode cX11_place 0 = .ok (.aload_n 0, 1) := by decide +kernel
theorem dX11_place_1 : decode cX11_place 1 = .ok (.iload_n 1, 1) := by decide +kernel
theorem dX11_place_2 : decode cX11_place 2 = .ok (.invokevirtual 215, 3) := by decide +kernel
theorem dX11_place_5 : decode cX11_place 5 = .ok (.ifCond .ne 6, 3) := by decide +kernel
theorem dX11_place_8 : decode cX11_place 8 = .ok (.bipush (-2), 2) := by decide +kernel
theorem dX11_place_10 : decode cX11_place 10 = .ok (.ireturn, 1) := by decide +kernel
theorem dX11_place_11 : decode cX11_place 11 = .ok (.iconst 0, 1) := by decide +kernel
theorem dX11_place_12 : decode cX11_place 12 = .ok (.istore_n 3, 1) := by decide +kernel
theorem dX11_place_13 : decode cX11_place 13 = .ok (.iconst 0, 1) := by decide +kernel
theorem dX11_place_14 : decode cX11_place 14 = .ok (.istore 4, 2) := by decide +kernel
theorem dX11_place_16 : decode cX11_place 16 = .ok (.iload 4, 2) := by decide +kernel
theorem dX11_place_18 : decode cX11_place 18 = .ok (.aload_n 0, 1) := by decide +kernel
theorem dX11_place_19 : decode cX11_place 19 = .ok (.getfield 98, 3) := by decide +kernel
theorem dX11_place_22 : decode cX11_place 22 = .ok (.if_icmp .ge 36, 3) := by decide +kernel
theorem dX11_place_25 : decode cX11_place 25 = .ok (.iload_n 2, 1) := by decide +kernel
theorem dX11_place_26 : decode cX11_place 26 = .ok (.iconst 2, 1) := by decide +kernel
theorem dX11_place_27 : decode cX11_place 27 = .ok (.if_icmp .ne 31, 3) := by decide +kernel
theorem dX11_place_30 : decode cX11_place 30 = .ok (.iload_n 3, 1) := by decide +kernel
theorem dX11_place_31 : decode cX11_place 31 = .ok (.aload_n 0, 1) := by decide +kernel
theorem dX11_place_32 : decode cX11_place 32 = .ok (.iload 4, 2) := by decide +kernel
theorem dX11_place_34 : decode cX11_place 34 = .ok (.iload_n 1, 1) := by decide +kernel
theorem dX11_place_35 : decode cX11_place 35 = .ok (.invokevirtual 218, 3) := by decide +kernel
theorem dX11_place_38 : decode cX11_place 38 = .ok (.iconst (-1), 1) := by decide +kernel
theorem dX11_place_39 : decode cX11_place 39 = .ok (.if_icmp .ne 7, 3) := by decide +kernel
theorem dX11_place_42 : decode cX11_place 42 = .ok (.iconst 0, 1) := by decide +kernel
theorem dX11_place_43 : decode cX11_place 43 = .ok (.goto 7, 3) := by decide +kernel
theorem dX11_place_46 : decode cX11_place 46 = .ok (.iconst 1, 1) := by decide +kernel
theorem dX11_place_47 : decode cX11_place 47 = .ok (.iload 4, 2) := by decide +kernel
theorem dX11_place_49 : decode cX11_place 49 = .ok (.ishl, 1) := by decide +kernel
theorem dX11_place_50 : decode cX11_place 50 = .ok (.ior, 1) := by decide +kernel
theorem dX11_place_51 : decode cX11_place 51 = .ok (.istore_n 3, 1) := by decide +kernel
theorem dX11_place_52 : decode cX11_place 52 = .ok (.iinc 4 1, 3) := by decide +kernel
theorem dX11_place_55 : decode cX11_place 55 = .ok (.goto (-39), 3) := by decide +kernel
theorem dX11_place_58 : decode cX11_place 58 = .ok (.iconst 0, 1) := by decide +kernel
theorem dX11_place_59 : decode cX11_place 59 = .ok (.istore 4, 2) := by decide +kernel
theorem dX11_place_61 : decode cX11_place 61 = .ok (.iload 4, 2) := by decide +kernel
theorem dX11_place_63 : decode cX11_place 63 = .ok (.aload_n 0, 1) := by decide +kernel
theorem dX11_place_64 : decode cX11_place 64 = .ok (.getfield 78, 3) := by decide +kernel
theorem dX11_place_67 : decode cX11_place 67 = .ok (.if_icmp .ge 36, 3) := by decide +kernel
theorem dX11_place_70 : decode cX11_place 70 = .ok (.iload_n 2, 1) := by decide +kernel
theorem dX11_place_71 : decode cX11_place 71 = .ok (.iconst 3, 1) := by decide +kernel
theorem dX11_place_72 : decode cX11_place 72 = .ok (.if_icmp .ne 31, 3) := by decide +kernel
theorem dX11_place_75 : decode cX11_place 75 = .ok (.iload_n 3, 1) := by decide +kernel
theorem dX11_place_76 : decode cX11_place 76 = .ok (.aload_n 0, 1) := by decide +kernel
theorem dX11_place_77 : decode cX11_place 77 = .ok (.getfield 25, 3) := by decide +kernel
theorem dX11_place_80 : decode cX11_place 80 = .ok (.iload 4, 2) := by decide +kernel
theorem dX11_place_82 : decode cX11_place 82 = .ok (.iaload, 1) := by decide +kernel
theorem dX11_place_83 : decode cX11_place 83 = .ok (.iload_n 1, 1) := by decide +kernel
theorem dX11_place_84 : decode cX11_place 84 = .ok (.if_icmp .ne 10, 3) := by decide +kernel
theorem dX11_place_87 : decode cX11_place 87 = .ok (.iconst 1, 1) := by decide +kernel
theorem dX11_place_88 : decode cX11_place 88 = .ok (.iload 4, 2) := by decide +kernel
theorem dX11_place_90 : decode cX11_place 90 = .ok (.ishl, 1) := by decide +kernel
theorem dX11_place_91 : decode cX11_place 91 = .ok (.goto 4, 3) := by decide +kernel
theorem dX11_place_94 : decode cX11_place 94 = .ok (.iconst 0, 1) := by decide +kernel
theorem dX11_place_95 : decode cX11_place 95 = .ok (.ior, 1) := by decide +kernel
theorem dX11_place_96 : decode cX11_place 96 = .ok (.istore_n 3, 1) := by decide +kernel
theorem dX11_place_97 : decode cX11_place 97 = .ok (.iinc 4 1, 3) := by decide +kernel
theorem dX11_place_100 : decode cX11_place 100 = .ok (.goto (-39), 3) := by decide +kernel
theorem dX11_place_103 : decode cX11_place 103 = .ok (.iload_n 2, 1) := by decide +kernel
theorem dX11_place_104 : decode cX11_place 104 = .ok (.ifCond .ne 12, 3) := by decide +kernel
theorem dX11_place_107 : decode cX11_place 107 = .ok (.aload_n 0, 1) := by decide +kernel
theorem dX11_place_108 : decode cX11_place 108 = .ok (.getfield 7, 3) := by decide +kernel
theorem dX11_place_111 : decode cX11_place 111 = .ok (.iload_n 1, 1) := by decide +kernel
theorem dX11_place_112 : decode cX11_place 112 = .ok (.iaload, 1) := by decide +kernel
theorem dX11_place_113 : decode cX11_place 113 = .ok (.goto 35, 3) := by decide +kernel
theorem dX11_place_116 : decode cX11_place 116 = .ok (.iload_n 2, 1) := by decide +kernel
theorem dX11_place_117 : decode cX11_place 117 = .ok (.iconst 1, 1) := by decide +kernel
theorem dX11_place_118 : decode cX11_place 118 = .ok (.if_icmp .ne 15, 3) := by decide +kernel
theorem dX11_place_121 : decode cX11_place 121 = .ok (.aload_n 0, 1) := by decide +kernel
theorem dX11_place_122 : decode cX11_place 122 = .ok (.getfield 25, 3) := by decide +kernel
theorem dX11_place_125 : decode cX11_place 125 = .ok (.bipush 12, 2) := by decide +kernel
theorem dX11_place_127 : decode cX11_place 127 = .ok (.iload_n 1, 1) := by decide +kernel
theorem dX11_place_128 : decode cX11_place 128 = .ok (.iadd, 1) := by decide +kernel
theorem dX11_place_129 : decode cX11_place 129 = .ok (.iaload, 1) := by decide +kernel
theorem dX11_place_130 : decode cX11_place 130 = .ok (.goto 18, 3) := by decide +kernel
theorem dX11_place_133 : decode cX11_place 133 = .ok (.iload_n 2, 1) := by decide +kernel
theorem dX11_place_134 : decode cX11_place 134 = .ok (.iconst 2, 1) := by decide +kernel
theorem dX11_place_135 : decode cX11_place 135 = .ok (.iconst 3, 1) := by decide +kernel
theorem dX11_place_136 : decode cX11_place 136 = .ok (.invokestatic 94, 3) := by decide +kernel
theorem dX11_place_139 : decode cX11_place 139 = .ok (.ifCond .eq 7, 3) := by decide +kernel
theorem dX11_place_142 : decode cX11_place 142 = .ok (.iload_n 3, 1) := by decide +kernel
theorem dX11_place_143 : decode cX11_place 143 = .ok (.goto 5, 3) := by decide +kernel
theorem dX11_place_146 : decode cX11_place 146 = .ok (.bipush (-3), 2) := by decide +kernel
theorem dX11_place_148 : decode cX11_place 148 = .ok (.ireturn, 1) := by decide +kernel
set_option maxRecDepth 20000 in
theorem ggX11_road_X11_isRoad : GoodIn wsX11_road wsX11_isRoad := goodIn_r _ [6, 7, 8, 9, 5, 10, 11, 12, 13, 14, 15, 16, 17, 18, 19, 20, 21, 22, 23, 24, 25, 26, 27, 28, 29, 30, 31, 32, 33, 34, 35, 36, 37, 38, 39, 40, 41, 42, 43, 44, 45, 46, 47, 48, 49] (by decide +kernel) (by decide +kernel)
set_option maxRecDepth 20000 in
theorem gX11_road_X11_isRoad : GoodIn wsX11_road (wsV RX11 222 RX11 yX11_isRoad wsX11_isRoad) := goodIn_app (goodIn_of _ (by decide +kernel)) ggX11_road_X11_isRoad
theorem dX11_road_0 : decode cX11_road 0 = .ok (.aload_n 0, 1) := by decide +kernel
theorem dX11_road_1 : decode cX11_road 1 = .ok (.iload_n 1, 1) := by decide +kernel
theorem dX11_road_2 : decode cX11_road 2 = .ok (.invokevirtual 222, 3) := by decide +kernel
theorem dX11_road_5 : decode cX11_road 5 = .ok (.ifCond .ne 6, 3) := by decide +kernel
theorem dX11_road_8 : decode cX11_road 8 = .ok (.bipush (-2), 2) := by decide +kernel
theorem dX11_road_10 : decode cX11_road 10 = .ok (.ireturn, 1) := by decide +kernel
theorem dX11_road_11 : decode cX11_road 11 = .ok (.iload_n 2, 1) := by decide +kernel
theorem dX11_road_12 : decode cX11_road 12 = .ok (.tableswitch 56 0 3 #[32, 43, 43, 43], 32) := by decide +kernel
theorem dX11_road_44 : decode cX11_road 44 = .ok (.aload_n 0, 1) := by decide +kernel
theorem dX11_road_45 : decode cX11_road 45 = .ok (.getfield 13, 3) := by decide +kernel
theorem dX11_road_48 : decode cX11_road 48 = .ok (.iconst 4, 1) := by decide +kernel
theorem dX11_road_49 : decode cX11_road 49 = .ok (.iload_n 1, 1) := by decide +kernel
theorem dX11_road_50 : decode cX11_road 50 = .ok (.imul, 1) := by decide +kernel
theorem dX11_road_51 : decode cX11_road 51 = .ok (.iconst 3, 1) := by decide +kernel
theorem dX11_road_52 : decode cX11_road 52 = .ok (.iadd, 1) := by decide +kernel
theorem dX11_road_53 : decode cX11_road 53 = .ok (.iaload, 1) := by decide +kernel
theorem dX11_road_54 : decode cX11_road 54 = .ok (.ireturn, 1) := by decide +kernel
theorem dX11_road_55 : decode cX11_road 55 = .ok (.aload_n 0, 1) := by decide +kernel
theorem dX11_road_56 : decode cX11_road 56 = .ok (.getfield 13, 3) := by decide +kernel
theorem dX11_road_59 : decode cX11_road 59 = .ok (.iconst 4, 1) := by decide +kernel
theorem dX11_road_60 : decode cX11_road 60 = .ok (.iload_n 1, 1) := by decide +kernel
theorem dX11_road_61 : decode cX11_road 61 = .ok (.imul, 1) := by decide +kernel
theorem dX11_road_62 : decode cX11_road 62 = .ok (.iload_n 2, 1) := by decide +kernel
theorem dX11_road_63 : decode cX11_road 63 = .ok (.iadd, 1) := by decide +kernel
theorem dX11_road_64 : decode cX11_road 64 = .ok (.iconst 1, 1) := by decide +kernel
theorem dX11_road_65 : decode cX11_road 65 = .ok (.isub, 1) := by decide +kernel
theorem dX11_road_66 : decode cX11_road 66 = .ok (.iaload, 1) := by decide +kernel
theorem dX11_road_67 : decode cX11_road 67 = .ok (.ireturn, 1) := by decide +kernel
theorem dX11_road_68 : decode cX11_road 68 = .ok (.bipush (-3), 2) := by decide +kernel
theorem dX11_road_70 : decode cX11_road 70 = .ok (.ireturn, 1) := by decide +kernel
theorem dX11_kindOf_0 : decode cX11_kindOf 0 = .ok (.aload_n 0, 1) := by decide +kernel
theorem dX11_kindOf_1 : decode cX11_kindOf 1 = .ok (.getfield 16, 3) := by decide +kernel
theorem dX11_kindOf_4 : decode cX11_kindOf 4 = .ok (.iconst 3, 1) := by decide +kernel
theorem dX11_kindOf_5 : decode cX11_kindOf 5 = .ok (.iload_n 1, 1) := by decide +kernel
theorem dX11_kindOf_6 : decode cX11_kindOf 6 = .ok (.imul, 1) := by decide +kernel
theorem dX11_kindOf_7 : decode cX11_kindOf 7 = .ok (.iaload, 1) := by decide +kernel
theorem dX11_kindOf_8 : decode cX11_kindOf 8 = .ok (.ireturn, 1) := by decide +kernel
theorem dX11_strawOf_0 : decode cX11_strawOf 0 = .ok (.aload_n 0, 1) := by decide +kernel
theorem dX11_strawOf_1 : decode cX11_strawOf 1 = .ok (.getfield 16, 3) := by decide +kernel
theorem dX11_strawOf_4 : decode cX11_strawOf 4 = .ok (.iconst 3, 1) := by decide +kernel
theorem dX11_strawOf_5 : decode cX11_strawOf 5 = .ok (.iload_n 1, 1) := by decide +kernel
theorem dX11_strawOf_6 : decode cX11_strawOf 6 = .ok (.imul, 1) := by decide +kernel
theorem dX11_strawOf_7 : decode cX11_strawOf 7 = .ok (.iconst 2, 1) := by decide +kernel
theorem dX11_strawOf_8 : decode cX11_strawOf 8 = .ok (.iadd, 1) := by decide +kernel
theorem dX11_strawOf_9 : decode cX11_strawOf 9 = .ok (.iaload, 1) := by decide +kernel
theorem dX11_strawOf_10 : decode cX11_strawOf 10 = .ok (.ireturn, 1) := by decide +kernel
set_option maxRecDepth 20000 in
theorem ggX11_cart_X11_isCart : GoodIn wsX11_cart wsX11_isCart := goodIn_r _ [6, 7, 8, 9, 5, 10, 20, 21, 22, 23, 24, 25, 26, 27, 28, 29, 30, 31, 32, 33, 34, 35, 36, 37, 38, 39, 40, 41, 42, 43, 44, 45, 46, 47, 48, 49, 50, 51, 52, 53, 54, 55, 56, 57, 58] (by decide +kernel) (by decide +kernel)
set_option maxRecDepth 20000 in
theorem gX11_cart_X11_isCart : GoodIn wsX11_cart (wsV RX11 225 RX11 yX11_isCart wsX11_isCart) := goodIn_app (goodIn_of _ (by decide +kernel)) ggX11_cart_X11_isCart
set_option maxRecDepth 20000 in
theorem ggX11_cart_X11_kindOf : GoodIn wsX11_cart wsX11_kindOf := goodIn_r _ [14, 15, 20, 21, 22, 23, 24, 25, 26, 27, 28, 29, 30, 31, 32, 33, 34, 35, 36, 37, 38, 39, 40, 41, 42, 43, 44, 45, 46, 47, 48, 49, 50, 51, 52, 53, 54, 55, 56, 57, 58] (by decide +kernel) (by decide +kernel)
set_option maxRecDepth 20000 in
theorem gX11_cart_X11_kindOf : GoodIn wsX11_cart (wsV RX11 228 RX11 yX11_kindOf wsX11_kindOf) := goodIn_app (goodIn_of _ (by decide +kernel)) ggX11_cart_X11_kindOf
set_option maxRecDepth 20000 in
theorem ggX11_cart_X11_strawOf : GoodIn wsX11_cart wsX11_strawOf := goodIn_r _ [19, 15, 20, 21, 22, 23, 24, 25, 26, 27, 28, 29, 30, 31, 32, 33, 34, 35, 36, 37, 38, 39, 40, 41, 42, 43, 44, 45, 46, 47, 48, 49, 50, 51, 52, 53, 54, 55, 56, 57, 58] (by decide +kernel) (by decide +kernel)
set_option maxRecDepth 20000 in
theorem gX11_cart_X11_strawOf : GoodIn wsX11_cart (wsV RX11 231 RX11 yX11_strawOf wsX11_strawOf) := goodIn_app (goodIn_of _ (by decide +kernel)) ggX11_cart_X11_strawOf
theorem dX11_cart_0 : decode cX11_cart 0 = .ok (.aload_n 0, 1) := by decide +kernel
theorem dX11_cart_1 : decode cX11_cart 1 = .ok (.iload_n 1, 1) := by decide +kernel
theorem dX11_cart_2 : decode cX11_cart 2 = .ok (.invokevirtual 225, 3) := by decide +kernel
theorem dX11_cart_5 : decode cX11_cart 5 = .ok (.ifCond .ne 6, 3) := by decide +kernel
theorem dX11_cart_8 : decode cX11_cart 8 = .ok (.bipush (-2), 2) := by decide +kernel
theorem dX11_cart_10 : decode cX11_cart 10 = .ok (.ireturn, 1) := by decide +kernel
theorem dX11_cart_11 : decode cX11_cart 11 = .ok (.iload_n 2, 1) := by decide +kernel
theorem dX11_cart_12 : decode cX11_cart 12 = .ok (.tableswitch 74 0 4 #[36, 42, 48, 55, 64], 36) := by decide +kernel
theorem dX11_cart_48 : decode cX11_cart 48 = .ok (.aload_n 0, 1) := by decide +kernel
theorem dX11_cart_49 : decode cX11_cart 49 = .ok (.iload_n 1, 1) := by decide +kernel
theorem dX11_cart_50 : decode cX11_cart 50 = .ok (.invokevirtual 228, 3) := by decide +kernel
theorem dX11_cart_53 : decode cX11_cart 53 = .ok (.ireturn, 1) := by decide +kernel
theorem dX11_cart_54 : decode cX11_cart 54 = .ok (.aload_n 0, 1) := by decide +kernel
theorem dX11_cart_55 : decode cX11_cart 55 = .ok (.iload_n 1, 1) := by decide +kernel
theorem dX11_cart_56 : decode cX11_cart 56 = .ok (.invokevirtual 231, 3) := by decide +kernel
theorem dX11_cart_59 : decode cX11_cart 59 = .ok (.ireturn, 1) := by decide +kernel
theorem dX11_cart_60 : decode cX11_cart 60 = .ok (.aload_n 0, 1) := by decide +kernel
theorem dX11_cart_61 : decode cX11_cart 61 = .ok (.getfield 25, 3) := by decide +kernel
theorem dX11_cart_64 : decode cX11_cart 64 = .ok (.iload_n 1, 1) := by decide +kernel
theorem dX11_cart_65 : decode cX11_cart 65 = .ok (.iaload, 1) := by decide +kernel
theorem dX11_cart_66 : decode cX11_cart 66 = .ok (.ireturn, 1) := by decide +kernel
theorem dX11_cart_67 : decode cX11_cart 67 = .ok (.aload_n 0, 1) := by decide +kernel
theorem dX11_cart_68 : decode cX11_cart 68 = .ok (.getfield 25, 3) := by decide +kernel
theorem dX11_cart_71 : decode cX11_cart 71 = .ok (.iconst 4, 1) := by decide +kernel
theorem dX11_cart_72 : decode cX11_cart 72 = .ok (.iload_n 1, 1) := by decide +kernel
theorem dX11_cart_73 : decode cX11_cart 73 = .ok (.iadd, 1) := by decide +kernel
theorem dX11_cart_74 : decode cX11_cart 74 = .ok (.iaload, 1) := by decide +kernel
theorem dX11_cart_75 : decode cX11_cart 75 = .ok (.ireturn, 1) := by decide +kernel
theorem dX11_cart_76 : decode cX11_cart 76 = .ok (.aload_n 0, 1) := by decide +kernel
theorem dX11_cart_77 : decode cX11_cart 77 = .ok (.getfield 25, 3) := by decide +kernel
theorem dX11_cart_80 : decode cX11_cart 80 = .ok (.bipush 8, 2) := by decide +kernel
theorem dX11_cart_82 : decode cX11_cart 82 = .ok (.iload_n 1, 1) := by decide +kernel
theorem dX11_cart_83 : decode cX11_cart 83 = .ok (.iadd, 1) := by decide +kernel
theorem dX11_cart_84 : decode cX11_cart 84 = .ok (.iaload, 1) := by decide +kernel
theorem dX11_cart_85 : decode cX11_cart 85 = .ok (.ireturn, 1) := by decide +kernel
theorem dX11_cart_86 : decode cX11_cart 86 = .ok (.bipush (-3), 2) := by decide +kernel
theorem dX11_cart_88 : decode cX11_cart 88 = .ok (.ireturn, 1) := by decide +kernel
set_option maxRecDepth 20000 in
theorem ggX11_as_X11_isCart : GoodIn wsX11_as wsX11_isCart := goodIn_r _ [6, 7, 8, 9, 5, 10, 36, 37, 38, 39, 40, 41, 42, 43, 44, 45, 46, 47, 48, 49, 50, 51, 52, 53, 54, 55, 56, 57, 58, 59, 60, 61, 62, 63, 64, 65, 66, 67, 68, 69, 70, 71, 72, 73, 74] (by decide +kernel) (by decide +kernel)
set_option maxRecDepth 20000 in
theorem gX11_as_X11_isCart : GoodIn wsX11_as (wsV RX11 225 RX11 yX11_isCart wsX11_isCart) := goodIn_app (goodIn_of _ (by decide +kernel)) ggX11_as_X11_isCart
set_option maxRecDepth 20000 in
theorem ggX11_as_X11_in : GoodIn wsX11_as wsX11_in := goodIn_r _ [10] (by decide +kernel) (by decide +kernel)
set_option maxRecDepth 20000 in
theorem gX11_as_X11_in : GoodIn wsX11_as (va_wsS RX11 94 yX11_in wsX11_in) := goodIn_app (goodIn_of _ (by decide +kernel)) ggX11_as_X11_in
set_option maxRecDepth 20000 in
theorem ggX11_as_X11_kindOf : GoodIn wsX11_as wsX11_kindOf := goodIn_r _ [14, 15, 36, 37, 38, 39, 40, 41, 42, 43, 44, 45, 46, 47, 48, 49, 50, 51, 52, 53, 54, 55, 56, 57, 58, 59, 60, 61, 62, 63, 64, 65, 66, 67, 68, 69, 70, 71, 72, 73, 74] (by decide +kernel) (by decide +kernel)
set_option maxRecDepth 20000 in
theorem gX11_as_X11_kindOf : GoodIn wsX11_as (wsV RX11 228 RX11 yX11_kindOf wsX11_kindOf) := goodIn_app (goodIn_of _ (by decide +kernel)) ggX11_as_X11_kindOf
set_option maxRecDepth 20000 in
theorem ggX11_as_X11_strawOf : GoodIn wsX11_as wsX11_strawOf := goodIn_r _ [19, 15, 36, 37, 38, 39, 40, 41, 42, 43, 44, 45, 46, 47, 48, 49, 50, 51, 52, 53, 54, 55, 56, 57, 58, 59, 60, 61, 62, 63, 64, 65, 66, 67, 68, 69, 70, 71, 72, 73, 74] (by decide +kernel) (by decide +kernel)
set_option maxRecDepth 20000 in
theorem gX11_as_X11_strawOf : GoodIn wsX11_as (wsV RX11 231 RX11 yX11_strawOf wsX11_strawOf) := goodIn_app (goodIn_of _ (by decide +kernel)) ggX11_as_X11_strawOf
set_option maxRecDepth 20000 in
theorem ggX11_as_X11_restedBy : GoodIn wsX11_as wsX11_restedBy := goodIn_r _ [23, 24, 25, 26, 27, 5, 28, 29, 30, 31, 32, 33, 34, 35, 8, 9, 10, 36, 37, 38, 39, 40, 41, 42, 43, 44, 45, 46, 47, 48, 49, 50, 51, 52, 53, 54, 55, 56, 57, 58, 59, 60, 61, 62, 63, 64, 65, 66, 67, 68, 69, 70, 71, 72, 73, 74] (by decide +kernel) (by decide +kernel)
set_option maxRecDepth 20000 in
theorem gX11_as_X11_restedBy : GoodIn wsX11_as (wsV RX11 234 RX11 yX11_restedBy wsX11_restedBy) := goodIn_app (goodIn_of _ (by decide +kernel)) ggX11_as_X11_restedBy
theorem dX11_as_0 : decode cX11_as 0 = .ok (.aload_n 0, 1) := by decide +kernel
theorem dX11_as_1 : decode cX11_as 1 = .ok (.iload_n 1, 1) := by decide +kernel
theorem dX11_as_2 : decode cX11_as 2 = .ok (.invokevirtual 225, 3) := by decide +kernel
theorem dX11_as_5 : decode cX11_as 5 = .ok (.ifCond .ne 6, 3) := by decide +kernel
theorem dX11_as_8 : decode cX11_as 8 = .ok (.bipush (-2), 2) := by decide +kernel
theorem dX11_as_10 : decode cX11_as 10 = .ok (.ireturn, 1) := by decide +kernel
theorem dX11_as_11 : decode cX11_as 11 = .ok (.iload_n 2, 1) := by decide +kernel
theorem dX11_as_12 : decode cX11_as 12 = .ok (.iconst 0, 1) := by decide +kernel
theorem dX11_as_13 : decode cX11_as 13 = .ok (.iconst 3, 1) := by decide +kernel
theorem dX11_as_14 : decode cX11_as 14 = .ok (.invokestatic 94, 3) := by decide +kernel
theorem dX11_as_17 : decode cX11_as 17 = .ok (.ifCond .ne 6, 3) := by decide +kernel
theorem dX11_as_20 : decode cX11_as 20 = .ok (.bipush (-3), 2) := by decide +kernel
theorem dX11_as_22 : decode cX11_as 22 = .ok (.ireturn, 1) := by decide +kernel
theorem dX11_as_23 : decode cX11_as 23 = .ok (.aload_n 0, 1) := by decide +kernel
theorem dX11_as_24 : decode cX11_as 24 = .ok (.getfield 25, 3) := by decide +kernel
theorem dX11_as_27 : decode cX11_as 27 = .ok (.bipush 8, 2) := by decide +kernel
theorem dX11_as_29 : decode cX11_as 29 = .ok (.iload_n 1, 1) := by decide +kernel
theorem dX11_as_30 : decode cX11_as 30 = .ok (.iadd, 1) := by decide +kernel
theorem dX11_as_31 : decode cX11_as 31 = .ok (.iaload, 1) := by decide +kernel
theorem dX11_as_32 : decode cX11_as 32 = .ok (.istore_n 3, 1) := by decide +kernel
theorem dX11_as_33 : decode cX11_as 33 = .ok (.iload_n 2, 1) := by decide +kernel
theorem dX11_as_34 : decode cX11_as 34 = .ok (.ifCond .eq 14, 3) := by decide +kernel
theorem dX11_as_37 : decode cX11_as 37 = .ok (.aload_n 0, 1) := by decide +kernel
theorem dX11_as_38 : decode cX11_as 38 = .ok (.iload_n 1, 1) := by decide +kernel
theorem dX11_as_39 : decode cX11_as 39 = .ok (.invokevirtual 228, 3) := by decide +kernel
theorem dX11_as_42 : decode cX11_as 42 = .ok (.iload_n 2, 1) := by decide +kernel
theorem dX11_as_43 : decode cX11_as 43 = .ok (.iconst 1, 1) := by decide +kernel
theorem dX11_as_44 : decode cX11_as 44 = .ok (.isub, 1) := by decide +kernel
theorem dX11_as_45 : decode cX11_as 45 = .ok (.if_icmp .lt 37, 3) := by decide +kernel
theorem dX11_as_48 : decode cX11_as 48 = .ok (.iload_n 3, 1) := by decide +kernel
theorem dX11_as_49 : decode cX11_as 49 = .ok (.aload_n 0, 1) := by decide +kernel
theorem dX11_as_50 : decode cX11_as 50 = .ok (.iload_n 3, 1) := by decide +kernel
theorem dX11_as_51 : decode cX11_as 51 = .ok (.aload_n 0, 1) := by decide +kernel
theorem dX11_as_52 : decode cX11_as 52 = .ok (.iload_n 1, 1) := by decide +kernel
theorem dX11_as_53 : decode cX11_as 53 = .ok (.invokevirtual 228, 3) := by decide +kernel
theorem dX11_as_56 : decode cX11_as 56 = .ok (.aload_n 0, 1) := by decide +kernel
theorem dX11_as_57 : decode cX11_as 57 = .ok (.iload_n 1, 1) := by decide +kernel
theorem dX11_as_58 : decode cX11_as 58 = .ok (.invokevirtual 231, 3) := by decide +kernel
theorem dX11_as_61 : decode cX11_as 61 = .ok (.aload_n 0, 1) := by decide +kernel
theorem dX11_as_62 : decode cX11_as 62 = .ok (.getfield 25, 3) := by decide +kernel
theorem dX11_as_65 : decode cX11_as 65 = .ok (.iconst 4, 1) := by decide +kernel
theorem dX11_as_66 : decode cX11_as 66 = .ok (.iload_n 1, 1) := by decide +kernel
theorem dX11_as_67 : decode cX11_as 67 = .ok (.iadd, 1) := by decide +kernel
theorem dX11_as_68 : decode cX11_as 68 = .ok (.iaload, 1) := by decide +kernel
theorem dX11_as_69 : decode cX11_as 69 = .ok (.aload_n 0, 1) := by decide +kernel
theorem dX11_as_70 : decode cX11_as 70 = .ok (.getfield 25, 3) := by decide +kernel
theorem dX11_as_73 : decode cX11_as 73 = .ok (.iload_n 1, 1) := by decide +kernel
theorem dX11_as_74 : decode cX11_as 74 = .ok (.iaload, 1) := by decide +kernel
theorem dX11_as_75 : decode cX11_as 75 = .ok (.invokevirtual 234, 3) := by decide +kernel
theorem dX11_as_78 : decode cX11_as 78 = .ok (.isub, 1) := by decide +kernel
theorem dX11_as_79 : decode cX11_as 79 = .ok (.goto 5, 3) := by decide +kernel
theorem dX11_as_82 : decode cX11_as 82 = .ok (.bipush (-4), 2) := by decide +kernel
theorem dX11_as_84 : decode cX11_as 84 = .ok (.ireturn, 1) := by decide +kernel
set_option maxRecDepth 20000 in
theorem ggX11_roadAs_X11_isRoad : GoodIn wsX11_roadAs wsX11_isRoad := goodIn_r _ [6, 7, 8, 9, 5, 10, 26, 27, 28, 29, 30, 31, 32, 33, 34, 35, 36, 37, 38, 39, 40, 41, 42, 43, 44, 45, 46, 47, 48, 49, 50, 51, 52, 53, 54, 55, 56, 57, 58, 59, 60, 61, 62, 63, 64] (by decide +kernel) (by decide +kernel)
set_option maxRecDepth 20000 in
theorem gX11_roadAs_X11_isRoad : GoodIn wsX11_roadAs (wsV RX11 222 RX11 yX11_isRoad wsX11_isRoad) := goodIn_app (goodIn_of _ (by decide +kernel)) ggX11_roadAs_X11_isRoad
set_option maxRecDepth 20000 in
theorem ggX11_roadAs_X11_in : GoodIn wsX11_roadAs wsX11_in := goodIn_r _ [10] (by decide +kernel) (by decide +kernel)
set_option maxRecDepth 20000 in
theorem gX11_roadAs_X11_in : GoodIn wsX11_roadAs (va_wsS RX11 94 yX11_in wsX11_in) := goodIn_app (goodIn_of _ (by decide +kernel)) ggX11_roadAs_X11_in
set_option maxRecDepth 20000 in
theorem ggX11_roadAs_X11_comesBy : GoodIn wsX11_roadAs wsX11_comesBy := goodIn_r _ [14, 1, 15, 16, 17, 5, 18, 19, 20, 21, 22, 23, 24, 25, 8, 9, 10, 26, 27, 28, 29, 30, 31, 32, 33, 34, 35, 36, 37, 38, 39, 40, 41, 42, 43, 44, 45, 46, 47, 48, 49, 50, 51, 52, 53, 54, 55, 56, 57, 58, 59, 60, 61, 62, 63, 64] (by decide +kernel) (by decide +kernel)
set_option maxRecDepth 20000 in
theorem gX11_roadAs_X11_comesBy : GoodIn wsX11_roadAs (wsV RX11 238 RX11 yX11_comesBy wsX11_comesBy) := goodIn_app (goodIn_of _ (by decide +kernel)) ggX11_roadAs_X11_comesBy
theorem dX11_roadAs_0 : decode cX11_roadAs 0 = .ok (.aload_n 0, 1) := by decide +kernel
theorem dX11_roadAs_1 : decode cX11_roadAs 1 = .ok (.iload_n 1, 1) := by decide +kernel
theorem dX11_roadAs_2 : decode cX11_roadAs 2 = .ok (.invokevirtual 222, 3) := by decide +kernel
theorem dX11_roadAs_5 : decode cX11_roadAs 5 = .ok (.ifCond .ne 6, 3) := by decide +kernel
theorem dX11_roadAs_8 : decode cX11_roadAs 8 = .ok (.bipush (-2), 2) := by decide +kernel
theorem dX11_roadAs_10 : decode cX11_roadAs 10 = .ok (.ireturn, 1) := by decide +kernel
theorem dX11_roadAs_11 : decode cX11_roadAs 11 = .ok (.iload_n 2, 1) := by decide +kernel
theorem dX11_roadAs_12 : decode cX11_roadAs 12 = .ok (.iconst 0, 1) := by decide +kernel
theorem dX11_roadAs_13 : decode cX11_roadAs 13 = .ok (.iconst 3, 1) := by decide +kernel
theorem dX11_roadAs_14 : decode cX11_roadAs 14 = .ok (.invokestatic 94, 3) := by decide +kernel
theorem dX11_roadAs_17 : decode cX11_roadAs 17 = .ok (.ifCond .ne 6, 3) := by decide +kernel
theorem dX11_roadAs_20 : decode cX11_roadAs 20 = .ok (.bipush (-3), 2) := by decide +kernel
theorem dX11_roadAs_22 : decode cX11_roadAs 22 = .ok (.ireturn, 1) := by decide +kernel
theorem dX11_roadAs_23 : decode cX11_roadAs 23 = .ok (.aload_n 0, 1) := by decide +kernel
theorem dX11_roadAs_24 : decode cX11_roadAs 24 = .ok (.getfield 13, 3) := by decide +kernel
theorem dX11_roadAs_27 : decode cX11_roadAs 27 = .ok (.iconst 4, 1) := by decide +kernel
theorem dX11_roadAs_28 : decode cX11_roadAs 28 = .ok (.iload_n 1, 1) := by decide +kernel
theorem dX11_roadAs_29 : decode cX11_roadAs 29 = .ok (.imul, 1) := by decide +kernel
theorem dX11_roadAs_30 : decode cX11_roadAs 30 = .ok (.iconst 3, 1) := by decide +kernel
theorem dX11_roadAs_31 : decode cX11_roadAs 31 = .ok (.iadd, 1) := by decide +kernel
theorem dX11_roadAs_32 : decode cX11_roadAs 32 = .ok (.iaload, 1) := by decide +kernel
theorem dX11_roadAs_33 : decode cX11_roadAs 33 = .ok (.istore_n 3, 1) := by decide +kernel
theorem dX11_roadAs_34 : decode cX11_roadAs 34 = .ok (.iload_n 2, 1) := by decide +kernel
theorem dX11_roadAs_35 : decode cX11_roadAs 35 = .ok (.ifCond .eq 34, 3) := by decide +kernel
theorem dX11_roadAs_38 : decode cX11_roadAs 38 = .ok (.iload_n 2, 1) := by decide +kernel
theorem dX11_roadAs_39 : decode cX11_roadAs 39 = .ok (.iconst 1, 1) := by decide +kernel
theorem dX11_roadAs_40 : decode cX11_roadAs 40 = .ok (.if_icmp .ne 11, 3) := by decide +kernel
theorem dX11_roadAs_43 : decode cX11_roadAs 43 = .ok (.iload_n 3, 1) := by decide +kernel
theorem dX11_roadAs_44 : decode cX11_roadAs 44 = .ok (.iconst 1, 1) := by decide +kernel
theorem dX11_roadAs_45 : decode cX11_roadAs 45 = .ok (.if_icmp .eq 28, 3) := by decide +kernel
theorem dX11_roadAs_48 : decode cX11_roadAs 48 = .ok (.goto 21, 3) := by decide +kernel
theorem dX11_roadAs_51 : decode cX11_roadAs 51 = .ok (.iload_n 2, 1) := by decide +kernel
theorem dX11_roadAs_52 : decode cX11_roadAs 52 = .ok (.iconst 2, 1) := by decide +kernel
theorem dX11_roadAs_53 : decode cX11_roadAs 53 = .ok (.if_icmp .ne 11, 3) := by decide +kernel
theorem dX11_roadAs_56 : decode cX11_roadAs 56 = .ok (.iload_n 3, 1) := by decide +kernel
theorem dX11_roadAs_57 : decode cX11_roadAs 57 = .ok (.iconst 1, 1) := by decide +kernel
theorem dX11_roadAs_58 : decode cX11_roadAs 58 = .ok (.if_icmp .ne 15, 3) := by decide +kernel
theorem dX11_roadAs_61 : decode cX11_roadAs 61 = .ok (.goto 8, 3) := by decide +kernel
theorem dX11_roadAs_64 : decode cX11_roadAs 64 = .ok (.iload_n 3, 1) := by decide +kernel
theorem dX11_roadAs_65 : decode cX11_roadAs 65 = .ok (.iconst 2, 1) := by decide +kernel
theorem dX11_roadAs_66 : decode cX11_roadAs 66 = .ok (.if_icmp .ne 7, 3) := by decide +kernel
theorem dX11_roadAs_69 : decode cX11_roadAs 69 = .ok (.iconst 1, 1) := by decide +kernel
theorem dX11_roadAs_70 : decode cX11_roadAs 70 = .ok (.goto 4, 3) := by decide +kernel
theorem dX11_roadAs_73 : decode cX11_roadAs 73 = .ok (.iconst 0, 1) := by decide +kernel
theorem dX11_roadAs_74 : decode cX11_roadAs 74 = .ok (.istore 4, 2) := by decide +kernel
theorem dX11_roadAs_76 : decode cX11_roadAs 76 = .ok (.iload 4, 2) := by decide +kernel
theorem dX11_roadAs_78 : decode cX11_roadAs 78 = .ok (.ifCond .eq 16, 3) := by decide +kernel
theorem dX11_roadAs_81 : decode cX11_roadAs 81 = .ok (.aload_n 0, 1) := by decide +kernel
theorem dX11_roadAs_82 : decode cX11_roadAs 82 = .ok (.iload_n 1, 1) := by decide +kernel
theorem dX11_roadAs_83 : decode cX11_roadAs 83 = .ok (.bipush 50, 2) := by decide +kernel
theorem dX11_roadAs_85 : decode cX11_roadAs 85 = .ok (.iconst 0, 1) := by decide +kernel
theorem dX11_roadAs_86 : decode cX11_roadAs 86 = .ok (.iconst 0, 1) := by decide +kernel
theorem dX11_roadAs_87 : decode cX11_roadAs 87 = .ok (.iconst 0, 1) := by decide +kernel
theorem dX11_roadAs_88 : decode cX11_roadAs 88 = .ok (.invokevirtual 238, 3) := by decide +kernel
theorem dX11_roadAs_91 : decode cX11_roadAs 91 = .ok (.goto 5, 3) := by decide +kernel
theorem dX11_roadAs_94 : decode cX11_roadAs 94 = .ok (.bipush (-4), 2) := by decide +kernel
theorem dX11_roadAs_96 : decode cX11_roadAs 96 = .ok (.ireturn, 1) := by decide +kernel
set_option maxRecDepth 20000 in
theorem ggX11_price_X11_in : GoodIn wsX11_price wsX11_in := goodIn_r _ [4] (by decide +kernel) (by decide +kernel)
set_option maxRecDepth 20000 in
theorem gX11_price_X11_in : GoodIn wsX11_price (va_wsS RX11 94 yX11_in wsX11_in) := goodIn_app (goodIn_of _ (by decide +kernel)) ggX11_price_X11_in
set_option maxRecDepth 20000 in
theorem ggX11_price_X11_priceIn : GoodIn wsX11_price wsX11_priceIn := goodIn_r _ [7] (by decide +kernel) (by decide +kernel)
set_option maxRecDepth 20000 in
theorem gX11_price_X11_priceIn : GoodIn wsX11_price (va_wsS RX11 241 yX11_priceIn wsX11_priceIn) := goodIn_app (goodIn_of _ (by decide +kernel)) ggX11_price_X11_priceIn
theorem dX11_price_0 : decode cX11_price 0 = .ok (.iload_n 1, 1) := by decide +kernel
theorem dX11_price_1 : decode cX11_price 1 = .ok (.iconst 0, 1) := by decide +kernel
theorem dX11_price_2 : decode cX11_price 2 = .ok (.bipush 48, 2) := by decide +kernel
theorem dX11_price_4 : decode cX11_price 4 = .ok (.invokestatic 94, 3) := by decide +kernel
theorem dX11_price_7 : decode cX11_price 7 = .ok (.ifCond .eq 10, 3) := by decide +kernel
theorem dX11_price_10 : decode cX11_price 10 = .ok (.iload_n 1, 1) := by decide +kernel
theorem dX11_price_11 : decode cX11_price 11 = .ok (.invokestatic 241, 3) := by decide +kernel
theorem dX11_price_14 : decode cX11_price 14 = .ok (.goto 5, 3) := by decide +kernel
theorem dX11_price_17 : decode cX11_price 17 = .ok (.bipush (-3), 2) := by decide +kernel
theorem dX11_price_19 : decode cX11_price 19 = .ok (.ireturn, 1) := by decide +kernel
theorem dX11_copy_0 : decode cX11_copy 0 = .ok (.iconst 0, 1) := by decide +kernel
theorem dX11_copy_1 : decode cX11_copy 1 = .ok (.istore 4, 2) := by decide +kernel
theorem dX11_copy_3 : decode cX11_copy 3 = .ok (.iload 4, 2) := by decide +kernel
theorem dX11_copy_5 : decode cX11_copy 5 = .ok (.bipush 20, 2) := by decide +kernel
theorem dX11_copy_7 : decode cX11_copy 7 = .ok (.if_icmp .ge 21, 3) := by decide +kernel
theorem dX11_copy_10 : decode cX11_copy 10 = .ok (.aload_n 2, 1) := by decide +kernel
theorem dX11_copy_11 : decode cX11_copy 11 = .ok (.iload_n 3, 1) := by decide +kernel
theorem dX11_copy_12 : decode cX11_copy 12 = .ok (.iload 4, 2) := by decide +kernel
theorem dX11_copy_14 : decode cX11_copy 14 = .ok (.iadd, 1) := by decide +kernel
theorem dX11_copy_15 : decode cX11_copy 15 = .ok (.aload_n 0, 1) := by decide +kernel
theorem dX11_copy_16 : decode cX11_copy 16 = .ok (.iload_n 1, 1) := by decide +kernel
theorem dX11_copy_17 : decode cX11_copy 17 = .ok (.iload 4, 2) := by decide +kernel
theorem dX11_copy_19 : decode cX11_copy 19 = .ok (.iadd, 1) := by decide +kernel
theorem dX11_copy_20 : decode cX11_copy 20 = .ok (.iaload, 1) := by decide +kernel
theorem dX11_copy_21 : decode cX11_copy 21 = .ok (.iastore, 1) := by decide +kernel
theorem dX11_copy_22 : decode cX11_copy 22 = .ok (.iinc 4 1, 3) := by decide +kernel
theorem dX11_copy_25 : decode cX11_copy 25 = .ok (.goto (-22), 3) := by decide +kernel
theorem dX11_copy_28 : decode cX11_copy 28 = .ok (.return_, 1) := by decide +kernel
set_option maxRecDepth 20000 in
theorem ggX11_note_X11_copy : GoodIn wsX11_note wsX11_copy := goodIn_r _ [7] (by decide +kernel) (by decide +kernel)
set_option maxRecDepth 20000 in
theorem gX11_note_X11_copy : GoodIn wsX11_note (va_wsS RX11 244 yX11_copy wsX11_copy) := goodIn_app (goodIn_of _ (by decide +kernel)) ggX11_note_X11_copy
theorem dX11_note_0 : decode cX11_note 0 = .ok (.aload_n 0, 1) := by decide +kernel
theorem dX11_note_1 : decode cX11_note 1 = .ok (.getfield 82, 3) := by decide +kernel
theorem dX11_note_4 : decode cX11_note 4 = .ok (.bipush 8, 2) := by decide +kernel
theorem dX11_note_6 : decode cX11_note 6 = .ok (.if_icmp .ne 43, 3) := by decide +kernel
theorem dX11_note_9 : decode cX11_note 9 = .ok (.iconst 0, 1) := by decide +kernel
theorem dX11_note_10 : decode cX11_note 10 = .ok (.istore_n 1, 1) := by decide +kernel
theorem dX11_note_11 : decode cX11_note 11 = .ok (.iload_n 1, 1) := by decide +kernel
theorem dX11_note_12 : decode cX11_note 12 = .ok (.sipush 140, 3) := by decide +kernel
theorem dX11_note_15 : decode cX11_note 15 = .ok (.if_icmp .ge 24, 3) := by decide +kernel
theorem dX11_note_18 : decode cX11_note 18 = .ok (.aload_n 0, 1) := by decide +kernel
theorem dX11_note_19 : decode cX11_note 19 = .ok (.getfield 35, 3) := by decide +kernel
theorem dX11_note_22 : decode cX11_note 22 = .ok (.iload_n 1, 1) := by decide +kernel
theorem dX11_note_23 : decode cX11_note 23 = .ok (.aload_n 0, 1) := by decide +kernel
theorem dX11_note_24 : decode cX11_note 24 = .ok (.getfield 35, 3) := by decide +kernel
theorem dX11_note_27 : decode cX11_note 27 = .ok (.iload_n 1, 1) := by decide +kernel
theorem dX11_note_28 : decode cX11_note 28 = .ok (.bipush 20, 2) := by decide +kernel
theorem dX11_note_30 : decode cX11_note 30 = .ok (.iadd, 1) := by decide +kernel
theorem dX11_note_31 : decode cX11_note 31 = .ok (.iaload, 1) := by decide +kernel
theorem dX11_note_32 : decode cX11_note 32 = .ok (.iastore, 1) := by decide +kernel
theorem dX11_note_33 : decode cX11_note 33 = .ok (.iinc 1 1, 3) := by decide +kernel
theorem dX11_note_36 : decode cX11_note 36 = .ok (.goto (-25), 3) := by decide +kernel
theorem dX11_note_39 : decode cX11_note 39 = .ok (.aload_n 0, 1) := by decide +kernel
theorem dX11_note_40 : decode cX11_note 40 = .ok (.dup, 1) := by decide +kernel
theorem dX11_note_41 : decode cX11_note 41 = .ok (.getfield 82, 3) := by decide +kernel
theorem dX11_note_44 : decode cX11_note 44 = .ok (.iconst 1, 1) := by decide +kernel
theorem dX11_note_45 : decode cX11_note 45 = .ok (.isub, 1) := by decide +kernel
theorem dX11_note_46 : decode cX11_note 46 = .ok (.putfield 82, 3) := by decide +kernel
theorem dX11_note_49 : decode cX11_note 49 = .ok (.aload_n 0, 1) := by decide +kernel
theorem dX11_note_50 : decode cX11_note 50 = .ok (.getfield 25, 3) := by decide +kernel
theorem dX11_note_53 : decode cX11_note 53 = .ok (.iconst 0, 1) := by decide +kernel
theorem dX11_note_54 : decode cX11_note 54 = .ok (.aload_n 0, 1) := by decide +kernel
theorem dX11_note_55 : decode cX11_note 55 = .ok (.getfield 35, 3) := by decide +kernel
theorem dX11_note_58 : decode cX11_note 58 = .ok (.bipush 20, 2) := by decide +kernel
theorem dX11_note_60 : decode cX11_note 60 = .ok (.aload_n 0, 1) := by decide +kernel
theorem dX11_note_61 : decode cX11_note 61 = .ok (.getfield 82, 3) := by decide +kernel
theorem dX11_note_64 : decode cX11_note 64 = .ok (.imul, 1) := by decide +kernel
theorem dX11_note_65 : decode cX11_note 65 = .ok (.invokestatic 244, 3) := by decide +kernel
theorem dX11_note_68 : decode cX11_note 68 = .ok (.aload_n 0, 1) := by decide +kernel
theorem dX11_note_69 : decode cX11_note 69 = .ok (.dup, 1) := by decide +kernel
theorem dX11_note_70 : decode cX11_note 70 = .ok (.getfield 82, 3) := by decide +kernel
theorem dX11_note_73 : decode cX11_note 73 = .ok (.iconst 1, 1) := by decide +kernel
theorem dX11_note_74 : decode cX11_note 74 = .ok (.iadd, 1) := by decide +kernel
theorem dX11_note_75 : decode cX11_note 75 = .ok (.putfield 82, 3) := by decide +kernel
theorem dX11_note_78 : decode cX11_note 78 = .ok (.return_, 1) := by decide +kernel
set_option maxRecDepth 20000 in
theorem ggX11_fill_X11_isCart : GoodIn wsX11_fill wsX11_isCart := goodIn_r _ [7, 8, 9, 10, 6, 11, 21, 22, 23, 24, 25, 26, 27, 28, 29, 30, 31, 32, 33, 34, 35, 36, 37, 38, 39, 40, 41, 42, 43, 44, 45, 46, 47, 48, 49, 50, 51, 52, 53, 54, 55, 56, 57, 58, 59] (by decide +kernel) (by decide +kernel)
set_option maxRecDepth 20000 in
theorem gX11_fill_X11_isCart : GoodIn wsX11_fill (wsV RX11 225 RX11 yX11_isCart wsX11_isCart) := goodIn_app (goodIn_of _ (by decide +kernel)) ggX11_fill_X11_isCart
set_option maxRecDepth 20000 in
theorem ggX11_fill_X11_in : GoodIn wsX11_fill wsX11_in := goodIn_r _ [11] (by decide +kernel) (by decide +kernel)
set_option maxRecDepth 20000 in
theorem gX11_fill_X11_in : GoodIn wsX11_fill (va_wsS RX11 94 yX11_in wsX11_in) := goodIn_app (goodIn_of _ (by decide +kernel)) ggX11_fill_X11_in
set_option maxRecDepth 20000 in
theorem ggX11_fill_X11_note : GoodIn wsX11_fill wsX11_note := goodIn_r _ [15, 16, 17, 2, 18, 19, 6, 20, 21, 22, 23, 24, 25, 26, 27, 28, 29, 30, 31, 32, 33, 34, 35, 36, 37, 38, 39, 40, 41, 42, 43, 44, 45, 46, 47, 48, 49, 50, 51, 52, 53, 54, 55, 56, 57, 58, 59] (by decide +kernel) (by decide +kernel)
set_option maxRecDepth 20000 in
theorem gX11_fill_X11_note : GoodIn wsX11_fill (wsV RX11 248 RX11 yX11_note wsX11_note) := goodIn_app (goodIn_of _ (by decide +kernel)) ggX11_fill_X11_note
theorem dX11_fill_0 : decode cX11_fill 0 = .ok (.aload_n 0, 1) := by decide +kernel
theorem dX11_fill_1 : decode cX11_fill 1 = .ok (.iload_n 1, 1) := by decide +kernel
theorem dX11_fill_2 : decode cX11_fill 2 = .ok (.invokevirtual 225, 3) := by decide +kernel
theorem dX11_fill_5 : decode cX11_fill 5 = .ok (.ifCond .ne 6, 3) := by decide +kernel
theorem dX11_fill_8 : decode cX11_fill 8 = .ok (.bipush (-2), 2) := by decide +kernel
theorem dX11_fill_10 : decode cX11_fill 10 = .ok (.ireturn, 1) := by decide +kernel
theorem dX11_fill_11 : decode cX11_fill 11 = .ok (.iload_n 2, 1) := by decide +kernel
theorem dX11_fill_12 : decode cX11_fill 12 = .ok (.iconst 1, 1) := by decide +kernel
theorem dX11_fill_13 : decode cX11_fill 13 = .ok (.bipush 99, 2) := by decide +kernel
theorem dX11_fill_15 : decode cX11_fill 15 = .ok (.invokestatic 94, 3) := by decide +kernel
theorem dX11_fill_18 : decode cX11_fill 18 = .ok (.ifCond .ne 6, 3) := by decide +kernel
theorem dX11_fill_21 : decode cX11_fill 21 = .ok (.bipush (-3), 2) := by decide +kernel
theorem dX11_fill_23 : decode cX11_fill 23 = .ok (.ireturn, 1) := by decide +kernel
theorem dX11_fill_24 : decode cX11_fill 24 = .ok (.aload_n 0, 1) := by decide +kernel
theorem dX11_fill_25 : decode cX11_fill 25 = .ok (.getfield 7, 3) := by decide +kernel
theorem dX11_fill_28 : decode cX11_fill 28 = .ok (.aload_n 0, 1) := by decide +kernel
theorem dX11_fill_29 : decode cX11_fill 29 = .ok (.getfield 25, 3) := by decide +kernel
theorem dX11_fill_32 : decode cX11_fill 32 = .ok (.iload_n 1, 1) := by decide +kernel
theorem dX11_fill_33 : decode cX11_fill 33 = .ok (.iaload, 1) := by decide +kernel
theorem dX11_fill_34 : decode cX11_fill 34 = .ok (.iaload, 1) := by decide +kernel
theorem dX11_fill_35 : decode cX11_fill 35 = .ok (.iconst 1, 1) := by decide +kernel
theorem dX11_fill_36 : decode cX11_fill 36 = .ok (.if_icmp .eq 6, 3) := by decide +kernel
theorem dX11_fill_39 : decode cX11_fill 39 = .ok (.bipush (-4), 2) := by decide +kernel
theorem dX11_fill_41 : decode cX11_fill 41 = .ok (.ireturn, 1) := by decide +kernel
theorem dX11_fill_42 : decode cX11_fill 42 = .ok (.aload_n 0, 1) := by decide +kernel
theorem dX11_fill_43 : decode cX11_fill 43 = .ok (.getfield 25, 3) := by decide +kernel
theorem dX11_fill_46 : decode cX11_fill 46 = .ok (.bipush 8, 2) := by decide +kernel
theorem dX11_fill_48 : decode cX11_fill 48 = .ok (.iload_n 1, 1) := by decide +kernel
theorem dX11_fill_49 : decode cX11_fill 49 = .ok (.iadd, 1) := by decide +kernel
theorem dX11_fill_50 : decode cX11_fill 50 = .ok (.iaload, 1) := by decide +kernel
theorem dX11_fill_51 : decode cX11_fill 51 = .ok (.iload_n 2, 1) := by decide +kernel
theorem dX11_fill_52 : decode cX11_fill 52 = .ok (.iadd, 1) := by decide +kernel
theorem dX11_fill_53 : decode cX11_fill 53 = .ok (.bipush 99, 2) := by decide +kernel
theorem dX11_fill_55 : decode cX11_fill 55 = .ok (.if_icmp .le 6, 3) := by decide +kernel
theorem dX11_fill_58 : decode cX11_fill 58 = .ok (.bipush (-5), 2) := by decide +kernel
theorem dX11_fill_60 : decode cX11_fill 60 = .ok (.ireturn, 1) := by decide +kernel
theorem dX11_fill_61 : decode cX11_fill 61 = .ok (.aload_n 0, 1) := by decide +kernel
theorem dX11_fill_62 : decode cX11_fill 62 = .ok (.invokevirtual 248, 3) := by decide +kernel
theorem dX11_fill_65 : decode cX11_fill 65 = .ok (.aload_n 0, 1) := by decide +kernel
theorem dX11_fill_66 : decode cX11_fill 66 = .ok (.getfield 25, 3) := by decide +kernel
theorem dX11_fill_69 : decode cX11_fill 69 = .ok (.bipush 8, 2) := by decide +kernel
theorem dX11_fill_71 : decode cX11_fill 71 = .ok (.iload_n 1, 1) := by decide +kernel
theorem dX11_fill_72 : decode cX11_fill 72 = .ok (.iadd, 1) := by decide +kernel
theorem dX11_fill_73 : decode cX11_fill 73 = .ok (.dup2, 1) := by decide +kernel
theorem dX11_fill_74 : decode cX11_fill 74 = .ok (.iaload, 1) := by decide +kernel
theorem dX11_fill_75 : decode cX11_fill 75 = .ok (.iload_n 2, 1) := by decide +kernel
theorem dX11_fill_76 : decode cX11_fill 76 = .ok (.iadd, 1) := by decide +kernel
theorem dX11_fill_77 : decode cX11_fill 77 = .ok (.iastore, 1) := by decide +kernel
theorem dX11_fill_78 : decode cX11_fill 78 = .ok (.aload_n 0, 1) := by decide +kernel
theorem dX11_fill_79 : decode cX11_fill 79 = .ok (.getfield 25, 3) := by decide +kernel
theorem dX11_fill_82 : decode cX11_fill 82 = .ok (.bipush 8, 2) := by decide +kernel
theorem dX11_fill_84 : decode cX11_fill 84 = .ok (.iload_n 1, 1) := by decide +kernel
theorem dX11_fill_85 : decode cX11_fill 85 = .ok (.iadd, 1) := by decide +kernel
theorem dX11_fill_86 : decode cX11_fill 86 = .ok (.iaload, 1) := by decide +kernel
theorem dX11_fill_87 : decode cX11_fill 87 = .ok (.ireturn, 1) := by decide +kernel
set_option maxRecDepth 20000 in
theorem ggX11_go_X11_isCart : GoodIn wsX11_go wsX11_isCart := goodIn_r _ [7, 8, 9, 10, 6, 11, 54, 55, 56, 57, 58, 59, 60, 61, 62, 63, 64, 65, 66, 67, 68, 69, 70, 71, 72, 73, 74, 75, 76, 77, 78, 79, 80, 81, 82, 83, 84, 85, 86, 87, 88, 89, 90, 91, 92] (by decide +kernel) (by decide +kernel)
set_option maxRecDepth 20000 in
theorem gX11_go_X11_isCart : GoodIn wsX11_go (wsV RX11 225 RX11 yX11_isCart wsX11_isCart) := goodIn_app (goodIn_of _ (by decide +kernel)) ggX11_go_X11_isCart
set_option maxRecDepth 20000 in
theorem ggX11_go_X11_isRoad : GoodIn wsX11_go wsX11_isRoad := goodIn_r _ [15, 16, 9, 10, 6, 11, 54, 55, 56, 57, 58, 59, 60, 61, 62, 63, 64, 65, 66, 67, 68, 69, 70, 71, 72, 73, 74, 75, 76, 77, 78, 79, 80, 81, 82, 83, 84, 85, 86, 87, 88, 89, 90, 91, 92] (by decide +kernel) (by decide +kernel)
set_option maxRecDepth 20000 in
theorem gX11_go_X11_isRoad : GoodIn wsX11_go (wsV RX11 222 RX11 yX11_isRoad wsX11_isRoad) := goodIn_app (goodIn_of _ (by decide +kernel)) ggX11_go_X11_isRoad
set_option maxRecDepth 20000 in
theorem ggX11_go_X11_endOf : GoodIn wsX11_go wsX11_endOf := goodIn_r _ [20, 2, 54, 55, 56, 57, 58, 59, 60, 61, 62, 63, 64, 65, 66, 67, 68, 69, 70, 71, 72, 73, 74, 75, 76, 77, 78, 79, 80, 81, 82, 83, 84, 85, 86, 87, 88, 89, 90, 91, 92] (by decide +kernel) (by decide +kernel)
set_option maxRecDepth 20000 in
theorem gX11_go_X11_endOf : GoodIn wsX11_go (wsV RX11 218 RX11 yX11_endOf wsX11_endOf) := goodIn_app (goodIn_of _ (by decide +kernel)) ggX11_go_X11_endOf
set_option maxRecDepth 20000 in
theorem ggX11_go_X11_note : GoodIn wsX11_go wsX11_note := goodIn_r _ [24, 25, 26, 1, 27, 28, 6, 29, 54, 55, 56, 57, 58, 59, 60, 61, 62, 63, 64, 65, 66, 67, 68, 69, 70, 71, 72, 73, 74, 75, 76, 77, 78, 79, 80, 81, 82, 83, 84, 85, 86, 87, 88, 89, 90, 91, 92] (by decide +kernel) (by decide +kernel)
set_option maxRecDepth 20000 in
theorem gX11_go_X11_note : GoodIn wsX11_go (wsV RX11 248 RX11 yX11_note wsX11_note) := goodIn_app (goodIn_of _ (by decide +kernel)) ggX11_go_X11_note
set_option maxRecDepth 20000 in
theorem ggX11_go_X11_kindOf : GoodIn wsX11_go wsX11_kindOf := goodIn_r _ [33, 34, 54, 55, 56, 57, 58, 59, 60, 61, 62, 63, 64, 65, 66, 67, 68, 69, 70, 71, 72, 73, 74, 75, 76, 77, 78, 79, 80, 81, 82, 83, 84, 85, 86, 87, 88, 89, 90, 91, 92] (by decide +kernel) (by decide +kernel)
set_option maxRecDepth 20000 in
theorem gX11_go_X11_kindOf : GoodIn wsX11_go (wsV RX11 228 RX11 yX11_kindOf wsX11_kindOf) := goodIn_app (goodIn_of _ (by decide +kernel)) ggX11_go_X11_kindOf
set_option maxRecDepth 20000 in
theorem ggX11_go_X11_strawOf : GoodIn wsX11_go wsX11_strawOf := goodIn_r _ [38, 34, 54, 55, 56, 57, 58, 59, 60, 61, 62, 63, 64, 65, 66, 67, 68, 69, 70, 71, 72, 73, 74, 75, 76, 77, 78, 79, 80, 81, 82, 83, 84, 85, 86, 87, 88, 89, 90, 91, 92] (by decide +kernel) (by decide +kernel)
set_option maxRecDepth 20000 in
theorem gX11_go_X11_strawOf : GoodIn wsX11_go (wsV RX11 231 RX11 yX11_strawOf wsX11_strawOf) := goodIn_app (goodIn_of _ (by decide +kernel)) ggX11_go_X11_strawOf
set_option maxRecDepth 20000 in
theorem ggX11_go_X11_comesBy : GoodIn wsX11_go wsX11_comesBy := goodIn_r _ [42, 2, 43, 44, 45, 6, 46, 47, 48, 49, 50, 51, 52, 53, 9, 10, 11, 54, 55, 56, 57, 58, 59, 60, 61, 62, 63, 64, 65, 66, 67, 68, 69, 70, 71, 72, 73, 74, 75, 76, 77, 78, 79, 80, 81, 82, 83, 84, 85, 86, 87, 88, 89, 90, 91, 92] (by decide +kernel) (by decide +kernel)
set_option maxRecDepth 20000 in
theorem gX11_go_X11_comesBy : GoodIn wsX11_go (wsV RX11 238 RX11 yX11_comesBy wsX11_comesBy) := goodIn_app (goodIn_of _ (by decide +kernel)) ggX11_go_X11_comesBy
theorem dX11_go_0 : decode cX11_go 0 = .ok (.aload_n 0, 1) := by decide +kernel
theorem dX11_go_1 : decode cX11_go 1 = .ok (.iload_n 1, 1) := by decide +kernel
theorem dX11_go_2 : decode cX11_go 2 = .ok (.invokevirtual 225, 3) := by decide +kernel
theorem dX11_go_5 : decode cX11_go 5 = .ok (.ifCond .eq 11, 3) := by decide +kernel
theorem dX11_go_8 : decode cX11_go 8 = .ok (.aload_n 0, 1) := by decide +kernel
theorem dX11_go_9 : decode cX11_go 9 = .ok (.iload_n 2, 1) := by decide +kernel
theorem dX11_go_10 : decode cX11_go 10 = .ok (.invokevirtual 222, 3) := by decide +kernel
theorem dX11_go_13 : decode cX11_go 13 = .ok (.ifCond .ne 6, 3) := by decide +kernel
theorem dX11_go_16 : decode cX11_go 16 = .ok (.bipush (-2), 2) := by decide +kernel
theorem dX11_go_18 : decode cX11_go 18 = .ok (.ireturn, 1) := by decide +kernel
theorem dX11_go_19 : decode cX11_go 19 = .ok (.aload_n 0, 1) := by decide +kernel
theorem dX11_go_20 : decode cX11_go 20 = .ok (.iload_n 2, 1) := by decide +kernel
theorem dX11_go_21 : decode cX11_go 21 = .ok (.aload_n 0, 1) := by decide +kernel
theorem dX11_go_22 : decode cX11_go 22 = .ok (.getfield 25, 3) := by decide +kernel
theorem dX11_go_25 : decode cX11_go 25 = .ok (.iload_n 1, 1) := by decide +kernel
theorem dX11_go_26 : decode cX11_go 26 = .ok (.iaload, 1) := by decide +kernel
theorem dX11_go_27 : decode cX11_go 27 = .ok (.invokevirtual 218, 3) := by decide +kernel
theorem dX11_go_30 : decode cX11_go 30 = .ok (.istore_n 3, 1) := by decide +kernel
theorem dX11_go_31 : decode cX11_go 31 = .ok (.iload_n 3, 1) := by decide +kernel
theorem dX11_go_32 : decode cX11_go 32 = .ok (.iconst (-1), 1) := by decide +kernel
theorem dX11_go_33 : decode cX11_go 33 = .ok (.if_icmp .ne 6, 3) := by decide +kernel
theorem dX11_go_36 : decode cX11_go 36 = .ok (.bipush (-4), 2) := by decide +kernel
theorem dX11_go_38 : decode cX11_go 38 = .ok (.ireturn, 1) := by decide +kernel
theorem dX11_go_39 : decode cX11_go 39 = .ok (.aload_n 0, 1) := by decide +kernel
theorem dX11_go_40 : decode cX11_go 40 = .ok (.getfield 25, 3) := by decide +kernel
theorem dX11_go_43 : decode cX11_go 43 = .ok (.iconst 4, 1) := by decide +kernel
theorem dX11_go_44 : decode cX11_go 44 = .ok (.iload_n 1, 1) := by decide +kernel
theorem dX11_go_45 : decode cX11_go 45 = .ok (.iadd, 1) := by decide +kernel
theorem dX11_go_46 : decode cX11_go 46 = .ok (.iaload, 1) := by decide +kernel
theorem dX11_go_47 : decode cX11_go 47 = .ok (.aload_n 0, 1) := by decide +kernel
theorem dX11_go_48 : decode cX11_go 48 = .ok (.getfield 13, 3) := by decide +kernel
theorem dX11_go_51 : decode cX11_go 51 = .ok (.iconst 4, 1) := by decide +kernel
theorem dX11_go_52 : decode cX11_go 52 = .ok (.iload_n 2, 1) := by decide +kernel
theorem dX11_go_53 : decode cX11_go 53 = .ok (.imul, 1) := by decide +kernel
theorem dX11_go_54 : decode cX11_go 54 = .ok (.iconst 2, 1) := by decide +kernel
theorem dX11_go_55 : decode cX11_go 55 = .ok (.iadd, 1) := by decide +kernel
theorem dX11_go_56 : decode cX11_go 56 = .ok (.iaload, 1) := by decide +kernel
theorem dX11_go_57 : decode cX11_go 57 = .ok (.iadd, 1) := by decide +kernel
theorem dX11_go_58 : decode cX11_go 58 = .ok (.bipush 48, 2) := by decide +kernel
theorem dX11_go_60 : decode cX11_go 60 = .ok (.if_icmp .le 6, 3) := by decide +kernel
theorem dX11_go_63 : decode cX11_go 63 = .ok (.bipush (-5), 2) := by decide +kernel
theorem dX11_go_65 : decode cX11_go 65 = .ok (.ireturn, 1) := by decide +kernel
theorem dX11_go_66 : decode cX11_go 66 = .ok (.aload_n 0, 1) := by decide +kernel
theorem dX11_go_67 : decode cX11_go 67 = .ok (.invokevirtual 248, 3) := by decide +kernel
theorem dX11_go_70 : decode cX11_go 70 = .ok (.aload_n 0, 1) := by decide +kernel
theorem dX11_go_71 : decode cX11_go 71 = .ok (.getfield 25, 3) := by decide +kernel
theorem dX11_go_74 : decode cX11_go 74 = .ok (.bipush 8, 2) := by decide +kernel
theorem dX11_go_76 : decode cX11_go 76 = .ok (.iload_n 1, 1) := by decide +kernel
theorem dX11_go_77 : decode cX11_go 77 = .ok (.iadd, 1) := by decide +kernel
theorem dX11_go_78 : decode cX11_go 78 = .ok (.aload_n 0, 1) := by decide +kernel
theorem dX11_go_79 : decode cX11_go 79 = .ok (.iload_n 2, 1) := by decide +kernel
theorem dX11_go_80 : decode cX11_go 80 = .ok (.aload_n 0, 1) := by decide +kernel
theorem dX11_go_81 : decode cX11_go 81 = .ok (.getfield 25, 3) := by decide +kernel
theorem dX11_go_84 : decode cX11_go 84 = .ok (.bipush 8, 2) := by decide +kernel
theorem dX11_go_86 : decode cX11_go 86 = .ok (.iload_n 1, 1) := by decide +kernel
theorem dX11_go_87 : decode cX11_go 87 = .ok (.iadd, 1) := by decide +kernel
theorem dX11_go_88 : decode cX11_go 88 = .ok (.iaload, 1) := by decide +kernel
theorem dX11_go_89 : decode cX11_go 89 = .ok (.aload_n 0, 1) := by decide +kernel
theorem dX11_go_90 : decode cX11_go 90 = .ok (.iload_n 1, 1) := by decide +kernel
theorem dX11_go_91 : decode cX11_go 91 = .ok (.invokevirtual 228, 3) := by decide +kernel
theorem dX11_go_94 : decode cX11_go 94 = .ok (.aload_n 0, 1) := by decide +kernel
theorem dX11_go_95 : decode cX11_go 95 = .ok (.iload_n 1, 1) := by decide +kernel
theorem dX11_go_96 : decode cX11_go 96 = .ok (.invokevirtual 231, 3) := by decide +kernel
theorem dX11_go_99 : decode cX11_go 99 = .ok (.aload_n 0, 1) := by decide +kernel
theorem dX11_go_100 : decode cX11_go 100 = .ok (.getfield 25, 3) := by decide +kernel
theorem dX11_go_103 : decode cX11_go 103 = .ok (.iconst 4, 1) := by decide +kernel
theorem dX11_go_104 : decode cX11_go 104 = .ok (.iload_n 1, 1) := by decide +kernel
theorem dX11_go_105 : decode cX11_go 105 = .ok (.iadd, 1) := by decide +kernel
theorem dX11_go_106 : decode cX11_go 106 = .ok (.iaload, 1) := by decide +kernel
theorem dX11_go_107 : decode cX11_go 107 = .ok (.invokevirtual 238, 3) := by decide +kernel
theorem dX11_go_110 : decode cX11_go 110 = .ok (.iastore, 1) := by decide +kernel
theorem dX11_go_111 : decode cX11_go 111 = .ok (.aload_n 0, 1) := by decide +kernel
theorem dX11_go_112 : decode cX11_go 112 = .ok (.getfield 25, 3) := by decide +kernel
theorem dX11_go_115 : decode cX11_go 115 = .ok (.iconst 4, 1) := by decide +kernel
theorem dX11_go_116 : decode cX11_go 116 = .ok (.iload_n 1, 1) := by decide +kernel
theorem dX11_go_117 : decode cX11_go 117 = .ok (.iadd, 1) := by decide +kernel
theorem dX11_go_118 : decode cX11_go 118 = .ok (.dup2, 1) := by decide +kernel
theorem dX11_go_119 : decode cX11_go 119 = .ok (.iaload, 1) := by decide +kernel
theorem dX11_go_120 : decode cX11_go 120 = .ok (.aload_n 0, 1) := by decide +kernel
theorem dX11_go_121 : decode cX11_go 121 = .ok (.getfield 13, 3) := by decide +kernel
theorem dX11_go_124 : decode cX11_go 124 = .ok (.iconst 4, 1) := by decide +kernel
theorem dX11_go_125 : decode cX11_go 125 = .ok (.iload_n 2, 1) := by decide +kernel
theorem dX11_go_126 : decode cX11_go 126 = .ok (.imul, 1) := by decide +kernel
theorem dX11_go_127 : decode cX11_go 127 = .ok (.iconst 2, 1) := by decide +kernel
theorem dX11_go_128 : decode cX11_go 128 = .ok (.iadd, 1) := by decide +kernel
theorem dX11_go_129 : decode cX11_go 129 = .ok (.iaload, 1) := by decide +kernel
theorem dX11_go_130 : decode cX11_go 130 = .ok (.iadd, 1) := by decide +kernel
theorem dX11_go_131 : decode cX11_go 131 = .ok (.iastore, 1) := by decide +kernel
theorem dX11_go_132 : decode cX11_go 132 = .ok (.aload_n 0, 1) := by decide +kernel
theorem dX11_go_133 : decode cX11_go 133 = .ok (.getfield 25, 3) := by decide +kernel
theorem dX11_go_136 : decode cX11_go 136 = .ok (.iload_n 1, 1) := by decide +kernel
theorem dX11_go_137 : decode cX11_go 137 = .ok (.iload_n 3, 1) := by decide +kernel
theorem dX11_go_138 : decode cX11_go 138 = .ok (.iastore, 1) := by decide +kernel
theorem dX11_go_139 : decode cX11_go 139 = .ok (.aload_n 0, 1) := by decide +kernel
theorem dX11_go_140 : decode cX11_go 140 = .ok (.getfield 25, 3) := by decide +kernel
theorem dX11_go_143 : decode cX11_go 143 = .ok (.bipush 8, 2) := by decide +kernel
theorem dX11_go_145 : decode cX11_go 145 = .ok (.iload_n 1, 1) := by decide +kernel
theorem dX11_go_146 : decode cX11_go 146 = .ok (.iadd, 1) := by decide +kernel
theorem dX11_go_147 : decode cX11_go 147 = .ok (.iaload, 1) := by decide +kernel
theorem dX11_go_148 : decode cX11_go 148 = .ok (.ireturn, 1) := by decide +kernel
set_option maxRecDepth 20000 in
theorem ggX11_snowTill_X11_kindOf : GoodIn wsX11_snowTill wsX11_kindOf := goodIn_r _ [6, 7, 31, 32, 33, 34, 35, 36, 37, 38, 39, 40, 41, 42, 43, 44, 45, 46, 47, 48, 49, 50, 51, 52, 53, 54, 55, 56, 57, 58, 59, 60, 61, 62, 63, 64, 65, 66, 67, 68, 69] (by decide +kernel) (by decide +kernel)
set_option maxRecDepth 20000 in
theorem gX11_snowTill_X11_kindOf : GoodIn wsX11_snowTill (wsV RX11 228 RX11 yX11_kindOf wsX11_kindOf) := goodIn_app (goodIn_of _ (by decide +kernel)) ggX11_snowTill_X11_kindOf
set_option maxRecDepth 20000 in
theorem ggX11_snowTill_X11_strawOf : GoodIn wsX11_snowTill wsX11_strawOf := goodIn_r _ [11, 7, 31, 32, 33, 34, 35, 36, 37, 38, 39, 40, 41, 42, 43, 44, 45, 46, 47, 48, 49, 50, 51, 52, 53, 54, 55, 56, 57, 58, 59, 60, 61, 62, 63, 64, 65, 66, 67, 68, 69] (by decide +kernel) (by decide +kernel)
set_option maxRecDepth 20000 in
theorem gX11_snowTill_X11_strawOf : GoodIn wsX11_snowTill (wsV RX11 231 RX11 yX11_strawOf wsX11_strawOf) := goodIn_app (goodIn_of _ (by decide +kernel)) ggX11_snowTill_X11_strawOf
set_option maxRecDepth 20000 in
theorem ggX11_snowTill_X11_restedBy : GoodIn wsX11_snowTill wsX11_restedBy := goodIn_r _ [15, 16, 17, 18, 19, 5, 20, 21, 22, 23, 24, 25, 26, 27, 28, 29, 30, 31, 32, 33, 34, 35, 36, 37, 38, 39, 40, 41, 42, 43, 44, 45, 46, 47, 48, 49, 50, 51, 52, 53, 54, 55, 56, 57, 58, 59, 60, 61, 62, 63, 64, 65, 66, 67, 68, 69] (by decide +kernel) (by decide +kernel)
set_option maxRecDepth 20000 in
theorem gX11_snowTill_X11_restedBy : GoodIn wsX11_snowTill (wsV RX11 234 RX11 yX11_restedBy wsX11_restedBy) := goodIn_app (goodIn_of _ (by decide +kernel)) ggX11_snowTill_X11_restedBy
theorem dX11_snowTill_0 : decode cX11_snowTill 0 = .ok (.aload_n 0, 1) := by decide +kernel
theorem dX11_snowTill_1 : decode cX11_snowTill 1 = .ok (.getfield 25, 3) := by decide +kernel
theorem dX11_snowTill_4 : decode cX11_snowTill 4 = .ok (.bipush 8, 2) := by decide +kernel
theorem dX11_snowTill_6 : decode cX11_snowTill 6 = .ok (.iload_n 1, 1) := by decide +kernel
theorem dX11_snowTill_7 : decode cX11_snowTill 7 = .ok (.iadd, 1) := by decide +kernel
theorem dX11_snowTill_8 : decode cX11_snowTill 8 = .ok (.iaload, 1) := by decide +kernel
theorem dX11_snowTill_9 : decode cX11_snowTill 9 = .ok (.istore_n 3, 1) := by decide +kernel
theorem dX11_snowTill_10 : decode cX11_snowTill 10 = .ok (.aload_n 0, 1) := by decide +kernel
theorem dX11_snowTill_11 : decode cX11_snowTill 11 = .ok (.getfield 25, 3) := by decide +kernel
theorem dX11_snowTill_14 : decode cX11_snowTill 14 = .ok (.iconst 4, 1) := by decide +kernel
theorem dX11_snowTill_15 : decode cX11_snowTill 15 = .ok (.iload_n 1, 1) := by decide +kernel
theorem dX11_snowTill_16 : decode cX11_snowTill 16 = .ok (.iadd, 1) := by decide +kernel
theorem dX11_snowTill_17 : decode cX11_snowTill 17 = .ok (.iaload, 1) := by decide +kernel
theorem dX11_snowTill_18 : decode cX11_snowTill 18 = .ok (.istore 4, 2) := by decide +kernel
theorem dX11_snowTill_20 : decode cX11_snowTill 20 = .ok (.iload 4, 2) := by decide +kernel
theorem dX11_snowTill_22 : decode cX11_snowTill 22 = .ok (.iload_n 2, 1) := by decide +kernel
theorem dX11_snowTill_23 : decode cX11_snowTill 23 = .ok (.if_icmp .ge 33, 3) := by decide +kernel
theorem dX11_snowTill_26 : decode cX11_snowTill 26 = .ok (.aload_n 0, 1) := by decide +kernel
theorem dX11_snowTill_27 : decode cX11_snowTill 27 = .ok (.iload_n 3, 1) := by decide +kernel
theorem dX11_snowTill_28 : decode cX11_snowTill 28 = .ok (.aload_n 0, 1) := by decide +kernel
theorem dX11_snowTill_29 : decode cX11_snowTill 29 = .ok (.iload_n 1, 1) := by decide +kernel
theorem dX11_snowTill_30 : decode cX11_snowTill 30 = .ok (.invokevirtual 228, 3) := by decide +kernel
theorem dX11_snowTill_33 : decode cX11_snowTill 33 = .ok (.aload_n 0, 1) := by decide +kernel
theorem dX11_snowTill_34 : decode cX11_snowTill 34 = .ok (.iload_n 1, 1) := by decide +kernel
theorem dX11_snowTill_35 : decode cX11_snowTill 35 = .ok (.invokevirtual 231, 3) := by decide +kernel
theorem dX11_snowTill_38 : decode cX11_snowTill 38 = .ok (.iload 4, 2) := by decide +kernel
theorem dX11_snowTill_40 : decode cX11_snowTill 40 = .ok (.aload_n 0, 1) := by decide +kernel
theorem dX11_snowTill_41 : decode cX11_snowTill 41 = .ok (.getfield 25, 3) := by decide +kernel
theorem dX11_snowTill_44 : decode cX11_snowTill 44 = .ok (.iload_n 1, 1) := by decide +kernel
theorem dX11_snowTill_45 : decode cX11_snowTill 45 = .ok (.iaload, 1) := by decide +kernel
theorem dX11_snowTill_46 : decode cX11_snowTill 46 = .ok (.invokevirtual 234, 3) := by decide +kernel
theorem dX11_snowTill_49 : decode cX11_snowTill 49 = .ok (.istore_n 3, 1) := by decide +kernel
theorem dX11_snowTill_50 : decode cX11_snowTill 50 = .ok (.iinc 4 1, 3) := by decide +kernel
theorem dX11_snowTill_53 : decode cX11_snowTill 53 = .ok (.goto (-33), 3) := by decide +kernel
theorem dX11_snowTill_56 : decode cX11_snowTill 56 = .ok (.iload_n 3, 1) := by decide +kernel
theorem dX11_snowTill_57 : decode cX11_snowTill 57 = .ok (.ireturn, 1) := by decide +kernel
set_option maxRecDepth 20000 in
theorem ggX11_rest_X11_isCart : GoodIn wsX11_rest wsX11_isCart := goodIn_r _ [6, 7, 8, 9, 5, 10, 49, 50, 51, 52, 53, 54, 55, 56, 57, 58, 59, 60, 61, 62, 63, 64, 65, 66, 67, 68, 69, 70, 71, 72, 73, 74, 75, 76, 77, 78, 79, 80, 81, 82, 83, 84, 85, 86, 87] (by decide +kernel) (by decide +kernel)
set_option maxRecDepth 20000 in
theorem gX11_rest_X11_isCart : GoodIn wsX11_rest (wsV RX11 225 RX11 yX11_isCart wsX11_isCart) := goodIn_app (goodIn_of _ (by decide +kernel)) ggX11_rest_X11_isCart
set_option maxRecDepth 20000 in
theorem ggX11_rest_X11_in : GoodIn wsX11_rest wsX11_in := goodIn_r _ [10] (by decide +kernel) (by decide +kernel)
set_option maxRecDepth 20000 in
theorem gX11_rest_X11_in : GoodIn wsX11_rest (va_wsS RX11 94 yX11_in wsX11_in) := goodIn_app (goodIn_of _ (by decide +kernel)) ggX11_rest_X11_in
set_option maxRecDepth 20000 in
theorem ggX11_rest_X11_note : GoodIn wsX11_rest wsX11_note := goodIn_r _ [14, 15, 16, 1, 17, 18, 5, 19, 49, 50, 51, 52, 53, 54, 55, 56, 57, 58, 59, 60, 61, 62, 63, 64, 65, 66, 67, 68, 69, 70, 71, 72, 73, 74, 75, 76, 77, 78, 79, 80, 81, 82, 83, 84, 85, 86, 87] (by decide +kernel) (by decide +kernel)
set_option maxRecDepth 20000 in
theorem gX11_rest_X11_note : GoodIn wsX11_rest (wsV RX11 248 RX11 yX11_note wsX11_note) := goodIn_app (goodIn_of _ (by decide +kernel)) ggX11_rest_X11_note
set_option maxRecDepth 20000 in
theorem ggX11_rest_X11_snowTill : GoodIn wsX11_rest wsX11_snowTill := goodIn_r _ [23, 1, 24, 25, 26, 5, 27, 28, 29, 30, 31, 32, 33, 34, 35, 36, 37, 38, 39, 40, 41, 42, 43, 44, 45, 46, 47, 48, 8, 9, 10, 49, 50, 51, 52, 53, 54, 55, 56, 57, 58, 59, 60, 61, 62, 63, 64, 65, 66, 67, 68, 69, 70, 71, 72, 73, 74, 75, 76, 77, 78, 79, 80, 81, 82, 83, 84, 85, 86, 87] (by decide +kernel) (by decide +kernel)
set_option maxRecDepth 20000 in
theorem gX11_rest_X11_snowTill : GoodIn wsX11_rest (wsV RX11 251 RX11 yX11_snowTill wsX11_snowTill) := goodIn_app (goodIn_of _ (by decide +kernel)) ggX11_rest_X11_snowTill
theorem dX11_rest_0 : decode cX11_rest 0 = .ok (.aload_n 0, 1) := by decide +kernel
theorem dX11_rest_1 : decode cX11_rest 1 = .ok (.iload_n 1, 1) := by decide +kernel
theorem dX11_rest_2 : decode cX11_rest 2 = .ok (.invokevirtual 225, 3) := by decide +kernel
theorem dX11_rest_5 : decode cX11_rest 5 = .ok (.ifCond .ne 6, 3) := by decide +kernel
theorem dX11_rest_8 : decode cX11_rest 8 = .ok (.bipush (-2), 2) := by decide +kernel
theorem dX11_rest_10 : decode cX11_rest 10 = .ok (.ireturn, 1) := by decide +kernel
theorem dX11_rest_11 : decode cX11_rest 11 = .ok (.iload_n 2, 1) := by decide +kernel
theorem dX11_rest_12 : decode cX11_rest 12 = .ok (.iconst 1, 1) := by decide +kernel
theorem dX11_rest_13 : decode cX11_rest 13 = .ok (.bipush 48, 2) := by decide +kernel
theorem dX11_rest_15 : decode cX11_rest 15 = .ok (.invokestatic 94, 3) := by decide +kernel
theorem dX11_rest_18 : decode cX11_rest 18 = .ok (.ifCond .ne 6, 3) := by decide +kernel
theorem dX11_rest_21 : decode cX11_rest 21 = .ok (.bipush (-3), 2) := by decide +kernel
theorem dX11_rest_23 : decode cX11_rest 23 = .ok (.ireturn, 1) := by decide +kernel
theorem dX11_rest_24 : decode cX11_rest 24 = .ok (.aload_n 0, 1) := by decide +kernel
theorem dX11_rest_25 : decode cX11_rest 25 = .ok (.getfield 25, 3) := by decide +kernel
theorem dX11_rest_28 : decode cX11_rest 28 = .ok (.iconst 4, 1) := by decide +kernel
theorem dX11_rest_29 : decode cX11_rest 29 = .ok (.iload_n 1, 1) := by decide +kernel
theorem dX11_rest_30 : decode cX11_rest 30 = .ok (.iadd, 1) := by decide +kernel
theorem dX11_rest_31 : decode cX11_rest 31 = .ok (.iaload, 1) := by decide +kernel
theorem dX11_rest_32 : decode cX11_rest 32 = .ok (.iload_n 2, 1) := by decide +kernel
theorem dX11_rest_33 : decode cX11_rest 33 = .ok (.iadd, 1) := by decide +kernel
theorem dX11_rest_34 : decode cX11_rest 34 = .ok (.istore_n 3, 1) := by decide +kernel
theorem dX11_rest_35 : decode cX11_rest 35 = .ok (.iload_n 3, 1) := by decide +kernel
theorem dX11_rest_36 : decode cX11_rest 36 = .ok (.bipush 48, 2) := by decide +kernel
theorem dX11_rest_38 : decode cX11_rest 38 = .ok (.if_icmp .le 6, 3) := by decide +kernel
theorem dX11_rest_41 : decode cX11_rest 41 = .ok (.bipush (-5), 2) := by decide +kernel
theorem dX11_rest_43 : decode cX11_rest 43 = .ok (.ireturn, 1) := by decide +kernel
theorem dX11_rest_44 : decode cX11_rest 44 = .ok (.aload_n 0, 1) := by decide +kernel
theorem dX11_rest_45 : decode cX11_rest 45 = .ok (.invokevirtual 248, 3) := by decide +kernel
theorem dX11_rest_48 : decode cX11_rest 48 = .ok (.aload_n 0, 1) := by decide +kernel
theorem dX11_rest_49 : decode cX11_rest 49 = .ok (.getfield 25, 3) := by decide +kernel
theorem dX11_rest_52 : decode cX11_rest 52 = .ok (.bipush 8, 2) := by decide +kernel
theorem dX11_rest_54 : decode cX11_rest 54 = .ok (.iload_n 1, 1) := by decide +kernel
theorem dX11_rest_55 : decode cX11_rest 55 = .ok (.iadd, 1) := by decide +kernel
theorem dX11_rest_56 : decode cX11_rest 56 = .ok (.aload_n 0, 1) := by decide +kernel
theorem dX11_rest_57 : decode cX11_rest 57 = .ok (.iload_n 1, 1) := by decide +kernel
theorem dX11_rest_58 : decode cX11_rest 58 = .ok (.iload_n 3, 1) := by decide +kernel
theorem dX11_rest_59 : decode cX11_rest 59 = .ok (.invokevirtual 251, 3) := by decide +kernel
theorem dX11_rest_62 : decode cX11_rest 62 = .ok (.iastore, 1) := by decide +kernel
theorem dX11_rest_63 : decode cX11_rest 63 = .ok (.aload_n 0, 1) := by decide +kernel
theorem dX11_rest_64 : decode cX11_rest 64 = .ok (.getfield 25, 3) := by decide +kernel
theorem dX11_rest_67 : decode cX11_rest 67 = .ok (.iconst 4, 1) := by decide +kernel
theorem dX11_rest_68 : decode cX11_rest 68 = .ok (.iload_n 1, 1) := by decide +kernel
theorem dX11_rest_69 : decode cX11_rest 69 = .ok (.iadd, 1) := by decide +kernel
theorem dX11_rest_70 : decode cX11_rest 70 = .ok (.iload_n 3, 1) := by decide +kernel
theorem dX11_rest_71 : decode cX11_rest 71 = .ok (.iastore, 1) := by decide +kernel
theorem dX11_rest_72 : decode cX11_rest 72 = .ok (.aload_n 0, 1) := by decide +kernel
theorem dX11_rest_73 : decode cX11_rest 73 = .ok (.getfield 25, 3) := by decide +kernel
theorem dX11_rest_76 : decode cX11_rest 76 = .ok (.bipush 8, 2) := by decide +kernel
theorem dX11_rest_78 : decode cX11_rest 78 = .ok (.iload_n 1, 1) := by decide +kernel
theorem dX11_rest_79 : decode cX11_rest 79 = .ok (.iadd, 1) := by decide +kernel
theorem dX11_rest_80 : decode cX11_rest 80 = .ok (.iaload, 1) := by decide +kernel
theorem dX11_rest_81 : decode cX11_rest 81 = .ok (.ireturn, 1) := by decide +kernel
set_option maxRecDepth 20000 in
theorem ggX11_join_X11_isCart : GoodIn wsX11_join wsX11_isCart := goodIn_r _ [6, 7, 8, 9, 5, 10, 49, 50, 51, 52, 53, 54, 55, 56, 57, 58, 59, 60, 61, 62, 63, 64, 65, 66, 67, 68, 69, 70, 71, 72, 73, 74, 75, 76, 77, 78, 79, 80, 81, 82, 83, 84, 85, 86, 87] (by decide +kernel) (by decide +kernel)
set_option maxRecDepth 20000 in
theorem gX11_join_X11_isCart : GoodIn wsX11_join (wsV RX11 225 RX11 yX11_isCart wsX11_isCart) := goodIn_app (goodIn_of _ (by decide +kernel)) ggX11_join_X11_isCart
set_option maxRecDepth 20000 in
theorem ggX11_join_X11_snowTill : GoodIn wsX11_join wsX11_snowTill := goodIn_r _ [14, 1, 15, 16, 17, 5, 18, 19, 20, 21, 22, 23, 24, 25, 26, 27, 28, 29, 30, 31, 32, 33, 34, 35, 36, 37, 38, 39, 8, 9, 10, 49, 50, 51, 52, 53, 54, 55, 56, 57, 58, 59, 60, 61, 62, 63, 64, 65, 66, 67, 68, 69, 70, 71, 72, 73, 74, 75, 76, 77, 78, 79, 80, 81, 82, 83, 84, 85, 86, 87] (by decide +kernel) (by decide +kernel)
set_option maxRecDepth 20000 in
theorem gX11_join_X11_snowTill : GoodIn wsX11_join (wsV RX11 251 RX11 yX11_snowTill wsX11_snowTill) := goodIn_app (goodIn_of _ (by decide +kernel)) ggX11_join_X11_snowTill
set_option maxRecDepth 20000 in
theorem ggX11_join_X11_note : GoodIn wsX11_join wsX11_note := goodIn_r _ [43, 44, 45, 1, 46, 47, 5, 48, 49, 50, 51, 52, 53, 54, 55, 56, 57, 58, 59, 60, 61, 62, 63, 64, 65, 66, 67, 68, 69, 70, 71, 72, 73, 74, 75, 76, 77, 78, 79, 80, 81, 82, 83, 84, 85, 86, 87] (by decide +kernel) (by decide +kernel)
set_option maxRecDepth 20000 in
theorem gX11_join_X11_note : GoodIn wsX11_join (wsV RX11 248 RX11 yX11_note wsX11_note) := goodIn_app (goodIn_of _ (by decide +kernel)) ggX11_join_X11_note
theorem dX11_join_0 : decode cX11_join 0 = .ok (.aload_n 0, 1) := by decide +kernel
theorem dX11_join_1 : decode cX11_join 1 = .ok (.iload_n 1, 1) := by decide +kernel
theorem dX11_join_2 : decode cX11_join 2 = .ok (.invokevirtual 225, 3) := by decide +kernel
theorem dX11_join_5 : decode cX11_join 5 = .ok (.ifCond .eq 16, 3) := by decide +kernel
theorem dX11_join_8 : decode cX11_join 8 = .ok (.aload_n 0, 1) := by decide +kernel
theorem dX11_join_9 : decode cX11_join 9 = .ok (.iload_n 2, 1) := by decide +kernel
theorem dX11_join_10 : decode cX11_join 10 = .ok (.invokevirtual 225, 3) := by decide +kernel
theorem dX11_join_13 : decode cX11_join 13 = .ok (.ifCond .eq 8, 3) := by decide +kernel
theorem dX11_join_16 : decode cX11_join 16 = .ok (.iload_n 1, 1) := by decide +kernel
theorem dX11_join_17 : decode cX11_join 17 = .ok (.iload_n 2, 1) := by decide +kernel
theorem dX11_join_18 : decode cX11_join 18 = .ok (.if_icmp .ne 6, 3) := by decide +kernel
theorem dX11_join_21 : decode cX11_join 21 = .ok (.bipush (-2), 2) := by decide +kernel
theorem dX11_join_23 : decode cX11_join 23 = .ok (.ireturn, 1) := by decide +kernel
theorem dX11_join_24 : decode cX11_join 24 = .ok (.aload_n 0, 1) := by decide +kernel
theorem dX11_join_25 : decode cX11_join 25 = .ok (.getfield 25, 3) := by decide +kernel
theorem dX11_join_28 : decode cX11_join 28 = .ok (.iload_n 1, 1) := by decide +kernel
theorem dX11_join_29 : decode cX11_join 29 = .ok (.iaload, 1) := by decide +kernel
theorem dX11_join_30 : decode cX11_join 30 = .ok (.aload_n 0, 1) := by decide +kernel
theorem dX11_join_31 : decode cX11_join 31 = .ok (.getfield 25, 3) := by decide +kernel
theorem dX11_join_34 : decode cX11_join 34 = .ok (.iload_n 2, 1) := by decide +kernel
theorem dX11_join_35 : decode cX11_join 35 = .ok (.iaload, 1) := by decide +kernel
theorem dX11_join_36 : decode cX11_join 36 = .ok (.if_icmp .eq 6, 3) := by decide +kernel
theorem dX11_join_39 : decode cX11_join 39 = .ok (.bipush (-4), 2) := by decide +kernel
theorem dX11_join_41 : decode cX11_join 41 = .ok (.ireturn, 1) := by decide +kernel
theorem dX11_join_42 : decode cX11_join 42 = .ok (.aload_n 0, 1) := by decide +kernel
theorem dX11_join_43 : decode cX11_join 43 = .ok (.getfield 25, 3) := by decide +kernel
theorem dX11_join_46 : decode cX11_join 46 = .ok (.iconst 4, 1) := by decide +kernel
theorem dX11_join_47 : decode cX11_join 47 = .ok (.iload_n 1, 1) := by decide +kernel
theorem dX11_join_48 : decode cX11_join 48 = .ok (.iadd, 1) := by decide +kernel
theorem dX11_join_49 : decode cX11_join 49 = .ok (.iaload, 1) := by decide +kernel
theorem dX11_join_50 : decode cX11_join 50 = .ok (.aload_n 0, 1) := by decide +kernel
theorem dX11_join_51 : decode cX11_join 51 = .ok (.getfield 25, 3) := by decide +kernel
theorem dX11_join_54 : decode cX11_join 54 = .ok (.iconst 4, 1) := by decide +kernel
theorem dX11_join_55 : decode cX11_join 55 = .ok (.iload_n 2, 1) := by decide +kernel
theorem dX11_join_56 : decode cX11_join 56 = .ok (.iadd, 1) := by decide +kernel
theorem dX11_join_57 : decode cX11_join 57 = .ok (.iaload, 1) := by decide +kernel
theorem dX11_join_58 : decode cX11_join 58 = .ok (.if_icmp .le 14, 3) := by decide +kernel
theorem dX11_join_61 : decode cX11_join 61 = .ok (.aload_n 0, 1) := by decide +kernel
theorem dX11_join_62 : decode cX11_join 62 = .ok (.getfield 25, 3) := by decide +kernel
theorem dX11_join_65 : decode cX11_join 65 = .ok (.iconst 4, 1) := by decide +kernel
theorem dX11_join_66 : decode cX11_join 66 = .ok (.iload_n 1, 1) := by decide +kernel
theorem dX11_join_67 : decode cX11_join 67 = .ok (.iadd, 1) := by decide +kernel
theorem dX11_join_68 : decode cX11_join 68 = .ok (.iaload, 1) := by decide +kernel
theorem dX11_join_69 : decode cX11_join 69 = .ok (.goto 11, 3) := by decide +kernel
theorem dX11_join_72 : decode cX11_join 72 = .ok (.aload_n 0, 1) := by decide +kernel
theorem dX11_join_73 : decode cX11_join 73 = .ok (.getfield 25, 3) := by decide +kernel
theorem dX11_join_76 : decode cX11_join 76 = .ok (.iconst 4, 1) := by decide +kernel
theorem dX11_join_77 : decode cX11_join 77 = .ok (.iload_n 2, 1) := by decide +kernel
theorem dX11_join_78 : decode cX11_join 78 = .ok (.iadd, 1) := by decide +kernel
theorem dX11_join_79 : decode cX11_join 79 = .ok (.iaload, 1) := by decide +kernel
theorem dX11_join_80 : decode cX11_join 80 = .ok (.istore_n 3, 1) := by decide +kernel
theorem dX11_join_81 : decode cX11_join 81 = .ok (.aload_n 0, 1) := by decide +kernel
theorem dX11_join_82 : decode cX11_join 82 = .ok (.iload_n 1, 1) := by decide +kernel
theorem dX11_join_83 : decode cX11_join 83 = .ok (.iload_n 3, 1) := by decide +kernel
theorem dX11_join_84 : decode cX11_join 84 = .ok (.invokevirtual 251, 3) := by decide +kernel
theorem dX11_join_87 : decode cX11_join 87 = .ok (.aload_n 0, 1) := by decide +kernel
theorem dX11_join_88 : decode cX11_join 88 = .ok (.iload_n 2, 1) := by decide +kernel
theorem dX11_join_89 : decode cX11_join 89 = .ok (.iload_n 3, 1) := by decide +kernel
theorem dX11_join_90 : decode cX11_join 90 = .ok (.invokevirtual 251, 3) := by decide +kernel
theorem dX11_join_93 : decode cX11_join 93 = .ok (.iadd, 1) := by decide +kernel
theorem dX11_join_94 : decode cX11_join 94 = .ok (.istore 4, 2) := by decide +kernel
theorem dX11_join_96 : decode cX11_join 96 = .ok (.iload 4, 2) := by decide +kernel
theorem dX11_join_98 : decode cX11_join 98 = .ok (.bipush 99, 2) := by decide +kernel
theorem dX11_join_100 : decode cX11_join 100 = .ok (.if_icmp .le 6, 3) := by decide +kernel
theorem dX11_join_103 : decode cX11_join 103 = .ok (.bipush (-5), 2) := by decide +kernel
theorem dX11_join_105 : decode cX11_join 105 = .ok (.ireturn, 1) := by decide +kernel
theorem dX11_join_106 : decode cX11_join 106 = .ok (.aload_n 0, 1) := by decide +kernel
theorem dX11_join_107 : decode cX11_join 107 = .ok (.invokevirtual 248, 3) := by decide +kernel
theorem dX11_join_110 : decode cX11_join 110 = .ok (.aload_n 0, 1) := by decide +kernel
theorem dX11_join_111 : decode cX11_join 111 = .ok (.getfield 25, 3) := by decide +kernel
theorem dX11_join_114 : decode cX11_join 114 = .ok (.bipush 8, 2) := by decide +kernel
theorem dX11_join_116 : decode cX11_join 116 = .ok (.iload_n 1, 1) := by decide +kernel
theorem dX11_join_117 : decode cX11_join 117 = .ok (.iadd, 1) := by decide +kernel
theorem dX11_join_118 : decode cX11_join 118 = .ok (.iload 4, 2) := by decide +kernel
theorem dX11_join_120 : decode cX11_join 120 = .ok (.iastore, 1) := by decide +kernel
theorem dX11_join_121 : decode cX11_join 121 = .ok (.aload_n 0, 1) := by decide +kernel
theorem dX11_join_122 : decode cX11_join 122 = .ok (.getfield 25, 3) := by decide +kernel
theorem dX11_join_125 : decode cX11_join 125 = .ok (.bipush 8, 2) := by decide +kernel
theorem dX11_join_127 : decode cX11_join 127 = .ok (.iload_n 2, 1) := by decide +kernel
theorem dX11_join_128 : decode cX11_join 128 = .ok (.iadd, 1) := by decide +kernel
theorem dX11_join_129 : decode cX11_join 129 = .ok (.iconst 0, 1) := by decide +kernel
theorem dX11_join_130 : decode cX11_join 130 = .ok (.iastore, 1) := by decide +kernel
theorem dX11_join_131 : decode cX11_join 131 = .ok (.aload_n 0, 1) := by decide +kernel
theorem dX11_join_132 : decode cX11_join 132 = .ok (.getfield 25, 3) := by decide +kernel
theorem dX11_join_135 : decode cX11_join 135 = .ok (.iconst 4, 1) := by decide +kernel
theorem dX11_join_136 : decode cX11_join 136 = .ok (.iload_n 1, 1) := by decide +kernel
theorem dX11_join_137 : decode cX11_join 137 = .ok (.iadd, 1) := by decide +kernel
theorem dX11_join_138 : decode cX11_join 138 = .ok (.iload_n 3, 1) := by decide +kernel
theorem dX11_join_139 : decode cX11_join 139 = .ok (.iastore, 1) := by decide +kernel
theorem dX11_join_140 : decode cX11_join 140 = .ok (.aload_n 0, 1) := by decide +kernel
theorem dX11_join_141 : decode cX11_join 141 = .ok (.getfield 25, 3) := by decide +kernel
theorem dX11_join_144 : decode cX11_join 144 = .ok (.iconst 4, 1) := by decide +kernel
theorem dX11_join_145 : decode cX11_join 145 = .ok (.iload_n 2, 1) := by decide +kernel
theorem dX11_join_146 : decode cX11_join 146 = .ok (.iadd, 1) := by decide +kernel
theorem dX11_join_147 : decode cX11_join 147 = .ok (.iload_n 3, 1) := by decide +kernel
theorem dX11_join_148 : decode cX11_join 148 = .ok (.iastore, 1) := by decide +kernel
theorem dX11_join_149 : decode cX11_join 149 = .ok (.iload 4, 2) := by decide +kernel
theorem dX11_join_151 : decode cX11_join 151 = .ok (.ireturn, 1) := by decide +kernel
set_option maxRecDepth 20000 in
theorem ggX11_opened_X11_root : GoodIn wsX11_opened wsX11_root := goodIn_r _ [4] (by decide +kernel) (by decide +kernel)
set_option maxRecDepth 20000 in
theorem gX11_opened_X11_root : GoodIn wsX11_opened (va_wsS RX11 204 yX11_root wsX11_root) := goodIn_app (goodIn_of _ (by decide +kernel)) ggX11_opened_X11_root
theorem dX11_opened_0 : decode cX11_opened 0 = .ok (.iload_n 0, 1) := by decide +kernel
theorem dX11_opened_1 : decode cX11_opened 1 = .ok (.iload_n 0, 1) := by decide +kernel
theorem dX11_opened_2 : decode cX11_opened 2 = .ok (.invokestatic 204, 3) := by decide +kernel
theorem dX11_opened_5 : decode cX11_opened 5 = .ok (.isub, 1) := by decide +kernel
theorem dX11_opened_6 : decode cX11_opened 6 = .ok (.ireturn, 1) := by decide +kernel
set_option maxRecDepth 20000 in
theorem ggX11_store_X11_isCart : GoodIn wsX11_store wsX11_isCart := goodIn_r _ [7, 8, 9, 10, 6, 11, 27, 28, 29, 30, 31, 32, 33, 34, 35, 36, 37, 38, 39, 40, 41, 42, 43, 44, 45, 46, 47, 48, 49, 50, 51, 52, 53, 54, 55, 56, 57, 58, 59, 60, 61, 62, 63, 64, 65] (by decide +kernel) (by decide +kernel)
set_option maxRecDepth 20000 in
theorem gX11_store_X11_isCart : GoodIn wsX11_store (wsV RX11 225 RX11 yX11_isCart wsX11_isCart) := goodIn_app (goodIn_of _ (by decide +kernel)) ggX11_store_X11_isCart
set_option maxRecDepth 20000 in
theorem ggX11_store_X11_opened : GoodIn wsX11_store wsX11_opened := goodIn_r _ [14, 15, 16, 6, 17] (by decide +kernel) (by decide +kernel)
set_option maxRecDepth 20000 in
theorem gX11_store_X11_opened : GoodIn wsX11_store (va_wsS RX11 254 yX11_opened wsX11_opened) := goodIn_app (goodIn_of _ (by decide +kernel)) ggX11_store_X11_opened
set_option maxRecDepth 20000 in
theorem ggX11_store_X11_note : GoodIn wsX11_store wsX11_note := goodIn_r _ [21, 22, 23, 1, 24, 25, 6, 26, 27, 28, 29, 30, 31, 32, 33, 34, 35, 36, 37, 38, 39, 40, 41, 42, 43, 44, 45, 46, 47, 48, 49, 50, 51, 52, 53, 54, 55, 56, 57, 58, 59, 60, 61, 62, 63, 64, 65] (by decide +kernel) (by decide +kernel)
set_option maxRecDepth 20000 in
theorem gX11_store_X11_note : GoodIn wsX11_store (wsV RX11 248 RX11 yX11_note wsX11_note) := goodIn_app (goodIn_of _ (by decide +kernel)) ggX11_store_X11_note
theorem dX11_store_0 : decode cX11_store 0 = .ok (.aload_n 0, 1) := by decide +kernel
theorem dX11_store_1 : decode cX11_store 1 = .ok (.iload_n 1, 1) := by decide +kernel
theorem dX11_store_2 : decode cX11_store 2 = .ok (.invokevirtual 225, 3) := by decide +kernel
theorem dX11_store_5 : decode cX11_store 5 = .ok (.ifCond .ne 6, 3) := by decide +kernel
theorem dX11_store_8 : decode cX11_store 8 = .ok (.bipush (-2), 2) := by decide +kernel
theorem dX11_store_10 : decode cX11_store 10 = .ok (.ireturn, 1) := by decide +kernel
theorem dX11_store_11 : decode cX11_store 11 = .ok (.aload_n 0, 1) := by decide +kernel
theorem dX11_store_12 : decode cX11_store 12 = .ok (.getfield 25, 3) := by decide +kernel
theorem dX11_store_15 : decode cX11_store 15 = .ok (.iload_n 1, 1) := by decide +kernel
theorem dX11_store_16 : decode cX11_store 16 = .ok (.iaload, 1) := by decide +kernel
theorem dX11_store_17 : decode cX11_store 17 = .ok (.istore_n 2, 1) := by decide +kernel
theorem dX11_store_18 : decode cX11_store 18 = .ok (.aload_n 0, 1) := by decide +kernel
theorem dX11_store_19 : decode cX11_store 19 = .ok (.getfield 7, 3) := by decide +kernel
theorem dX11_store_22 : decode cX11_store 22 = .ok (.iload_n 2, 1) := by decide +kernel
theorem dX11_store_23 : decode cX11_store 23 = .ok (.iaload, 1) := by decide +kernel
theorem dX11_store_24 : decode cX11_store 24 = .ok (.iconst 2, 1) := by decide +kernel
theorem dX11_store_25 : decode cX11_store 25 = .ok (.if_icmp .eq 6, 3) := by decide +kernel
theorem dX11_store_28 : decode cX11_store 28 = .ok (.bipush (-4), 2) := by decide +kernel
theorem dX11_store_30 : decode cX11_store 30 = .ok (.ireturn, 1) := by decide +kernel
theorem dX11_store_31 : decode cX11_store 31 = .ok (.aload_n 0, 1) := by decide +kernel
theorem dX11_store_32 : decode cX11_store 32 = .ok (.getfield 25, 3) := by decide +kernel
theorem dX11_store_35 : decode cX11_store 35 = .ok (.bipush 12, 2) := by decide +kernel
theorem dX11_store_37 : decode cX11_store 37 = .ok (.iload_n 2, 1) := by decide +kernel
theorem dX11_store_38 : decode cX11_store 38 = .ok (.iadd, 1) := by decide +kernel
theorem dX11_store_39 : decode cX11_store 39 = .ok (.iaload, 1) := by decide +kernel
theorem dX11_store_40 : decode cX11_store 40 = .ok (.invokestatic 254, 3) := by decide +kernel
theorem dX11_store_43 : decode cX11_store 43 = .ok (.aload_n 0, 1) := by decide +kernel
theorem dX11_store_44 : decode cX11_store 44 = .ok (.getfield 25, 3) := by decide +kernel
theorem dX11_store_47 : decode cX11_store 47 = .ok (.bipush 8, 2) := by decide +kernel
theorem dX11_store_49 : decode cX11_store 49 = .ok (.iload_n 1, 1) := by decide +kernel
theorem dX11_store_50 : decode cX11_store 50 = .ok (.iadd, 1) := by decide +kernel
theorem dX11_store_51 : decode cX11_store 51 = .ok (.iaload, 1) := by decide +kernel
theorem dX11_store_52 : decode cX11_store 52 = .ok (.iadd, 1) := by decide +kernel
theorem dX11_store_53 : decode cX11_store 53 = .ok (.istore_n 3, 1) := by decide +kernel
theorem dX11_store_54 : decode cX11_store 54 = .ok (.iload_n 3, 1) := by decide +kernel
theorem dX11_store_55 : decode cX11_store 55 = .ok (.sipush 999, 3) := by decide +kernel
theorem dX11_store_58 : decode cX11_store 58 = .ok (.if_icmp .le 6, 3) := by decide +kernel
theorem dX11_store_61 : decode cX11_store 61 = .ok (.bipush (-5), 2) := by decide +kernel
theorem dX11_store_63 : decode cX11_store 63 = .ok (.ireturn, 1) := by decide +kernel
theorem dX11_store_64 : decode cX11_store 64 = .ok (.aload_n 0, 1) := by decide +kernel
theorem dX11_store_65 : decode cX11_store 65 = .ok (.invokevirtual 248, 3) := by decide +kernel
theorem dX11_store_68 : decode cX11_store 68 = .ok (.aload_n 0, 1) := by decide +kernel
theorem dX11_store_69 : decode cX11_store 69 = .ok (.getfield 25, 3) := by decide +kernel
theorem dX11_store_72 : decode cX11_store 72 = .ok (.bipush 12, 2) := by decide +kernel
theorem dX11_store_74 : decode cX11_store 74 = .ok (.iload_n 2, 1) := by decide +kernel
theorem dX11_store_75 : decode cX11_store 75 = .ok (.iadd, 1) := by decide +kernel
theorem dX11_store_76 : decode cX11_store 76 = .ok (.iload_n 3, 1) := by decide +kernel
theorem dX11_store_77 : decode cX11_store 77 = .ok (.iastore, 1) := by decide +kernel
theorem dX11_store_78 : decode cX11_store 78 = .ok (.aload_n 0, 1) := by decide +kernel
theorem dX11_store_79 : decode cX11_store 79 = .ok (.getfield 25, 3) := by decide +kernel
theorem dX11_store_82 : decode cX11_store 82 = .ok (.bipush 8, 2) := by decide +kernel
theorem dX11_store_84 : decode cX11_store 84 = .ok (.iload_n 1, 1) := by decide +kernel
theorem dX11_store_85 : decode cX11_store 85 = .ok (.iadd, 1) := by decide +kernel
theorem dX11_store_86 : decode cX11_store 86 = .ok (.iconst 0, 1) := by decide +kernel
theorem dX11_store_87 : decode cX11_store 87 = .ok (.iastore, 1) := by decide +kernel
theorem dX11_store_88 : decode cX11_store 88 = .ok (.iload_n 3, 1) := by decide +kernel
theorem dX11_store_89 : decode cX11_store 89 = .ok (.ireturn, 1) := by decide +kernel
set_option maxRecDepth 20000 in
theorem ggX11_take_X11_isCart : GoodIn wsX11_take wsX11_isCart := goodIn_r _ [7, 8, 9, 10, 6, 11, 27, 28, 29, 30, 31, 32, 33, 34, 35, 36, 37, 38, 39, 40, 41, 42, 43, 44, 45, 46, 47, 48, 49, 50, 51, 52, 53, 54, 55, 56, 57, 58, 59, 60, 61, 62, 63, 64, 65] (by decide +kernel) (by decide +kernel)
set_option maxRecDepth 20000 in
theorem gX11_take_X11_isCart : GoodIn wsX11_take (wsV RX11 225 RX11 yX11_isCart wsX11_isCart) := goodIn_app (goodIn_of _ (by decide +kernel)) ggX11_take_X11_isCart
set_option maxRecDepth 20000 in
theorem ggX11_take_X11_in : GoodIn wsX11_take wsX11_in := goodIn_r _ [11] (by decide +kernel) (by decide +kernel)
set_option maxRecDepth 20000 in
theorem gX11_take_X11_in : GoodIn wsX11_take (va_wsS RX11 94 yX11_in wsX11_in) := goodIn_app (goodIn_of _ (by decide +kernel)) ggX11_take_X11_in
set_option maxRecDepth 20000 in
theorem ggX11_take_X11_opened : GoodIn wsX11_take wsX11_opened := goodIn_r _ [14, 15, 16, 6, 17] (by decide +kernel) (by decide +kernel)
set_option maxRecDepth 20000 in
theorem gX11_take_X11_opened : GoodIn wsX11_take (va_wsS RX11 254 yX11_opened wsX11_opened) := goodIn_app (goodIn_of _ (by decide +kernel)) ggX11_take_X11_opened
set_option maxRecDepth 20000 in
theorem ggX11_take_X11_note : GoodIn wsX11_take wsX11_note := goodIn_r _ [21, 22, 23, 1, 24, 25, 6, 26, 27, 28, 29, 30, 31, 32, 33, 34, 35, 36, 37, 38, 39, 40, 41, 42, 43, 44, 45, 46, 47, 48, 49, 50, 51, 52, 53, 54, 55, 56, 57, 58, 59, 60, 61, 62, 63, 64, 65] (by decide +kernel) (by decide +kernel)
set_option maxRecDepth 20000 in
theorem gX11_take_X11_note : GoodIn wsX11_take (wsV RX11 248 RX11 yX11_note wsX11_note) := goodIn_app (goodIn_of _ (by decide +kernel)) ggX11_take_X11_note
theorem dX11_take_0 : decode cX11_take 0 = .ok (.aload_n 0, 1) := by decide +kernel
theorem dX11_take_1 : decode cX11_take 1 = .ok (.iload_n 1, 1) := by decide +kernel
theorem dX11_take_2 : decode cX11_take 2 = .ok (.invokevirtual 225, 3) := by decide +kernel
theorem dX11_take_5 : decode cX11_take 5 = .ok (.ifCond .ne 6, 3) := by decide +kernel
theorem dX11_take_8 : decode cX11_take 8 = .ok (.bipush (-2), 2) := by decide +kernel
theorem dX11_take_10 : decode cX11_take 10 = .ok (.ireturn, 1) := by decide +kernel
theorem dX11_take_11 : decode cX11_take 11 = .ok (.iload_n 2, 1) := by decide +kernel
theorem dX11_take_12 : decode cX11_take 12 = .ok (.iconst 1, 1) := by decide +kernel
theorem dX11_take_13 : decode cX11_take 13 = .ok (.bipush 99, 2) := by decide +kernel
theorem dX11_take_15 : decode cX11_take 15 = .ok (.invokestatic 94, 3) := by decide +kernel
theorem dX11_take_18 : decode cX11_take 18 = .ok (.ifCond .ne 6, 3) := by decide +kernel
theorem dX11_take_21 : decode cX11_take 21 = .ok (.bipush (-3), 2) := by decide +kernel
theorem dX11_take_23 : decode cX11_take 23 = .ok (.ireturn, 1) := by decide +kernel
theorem dX11_take_24 : decode cX11_take 24 = .ok (.aload_n 0, 1) := by decide +kernel
theorem dX11_take_25 : decode cX11_take 25 = .ok (.getfield 25, 3) := by decide +kernel
theorem dX11_take_28 : decode cX11_take 28 = .ok (.iload_n 1, 1) := by decide +kernel
theorem dX11_take_29 : decode cX11_take 29 = .ok (.iaload, 1) := by decide +kernel
theorem dX11_take_30 : decode cX11_take 30 = .ok (.istore_n 3, 1) := by decide +kernel
theorem dX11_take_31 : decode cX11_take 31 = .ok (.aload_n 0, 1) := by decide +kernel
theorem dX11_take_32 : decode cX11_take 32 = .ok (.getfield 7, 3) := by decide +kernel
theorem dX11_take_35 : decode cX11_take 35 = .ok (.iload_n 3, 1) := by decide +kernel
theorem dX11_take_36 : decode cX11_take 36 = .ok (.iaload, 1) := by decide +kernel
theorem dX11_take_37 : decode cX11_take 37 = .ok (.iconst 2, 1) := by decide +kernel
theorem dX11_take_38 : decode cX11_take 38 = .ok (.if_icmp .ne 19, 3) := by decide +kernel
theorem dX11_take_41 : decode cX11_take 41 = .ok (.aload_n 0, 1) := by decide +kernel
theorem dX11_take_42 : decode cX11_take 42 = .ok (.getfield 25, 3) := by decide +kernel
theorem dX11_take_45 : decode cX11_take 45 = .ok (.bipush 12, 2) := by decide +kernel
theorem dX11_take_47 : decode cX11_take 47 = .ok (.iload_n 3, 1) := by decide +kernel
theorem dX11_take_48 : decode cX11_take 48 = .ok (.iadd, 1) := by decide +kernel
theorem dX11_take_49 : decode cX11_take 49 = .ok (.iaload, 1) := by decide +kernel
theorem dX11_take_50 : decode cX11_take 50 = .ok (.invokestatic 254, 3) := by decide +kernel
theorem dX11_take_53 : decode cX11_take 53 = .ok (.iload_n 2, 1) := by decide +kernel
theorem dX11_take_54 : decode cX11_take 54 = .ok (.if_icmp .ge 6, 3) := by decide +kernel
theorem dX11_take_57 : decode cX11_take 57 = .ok (.bipush (-4), 2) := by decide +kernel
theorem dX11_take_59 : decode cX11_take 59 = .ok (.ireturn, 1) := by decide +kernel
theorem dX11_take_60 : decode cX11_take 60 = .ok (.aload_n 0, 1) := by decide +kernel
theorem dX11_take_61 : decode cX11_take 61 = .ok (.getfield 25, 3) := by decide +kernel
theorem dX11_take_64 : decode cX11_take 64 = .ok (.bipush 8, 2) := by decide +kernel
theorem dX11_take_66 : decode cX11_take 66 = .ok (.iload_n 1, 1) := by decide +kernel
theorem dX11_take_67 : decode cX11_take 67 = .ok (.iadd, 1) := by decide +kernel
theorem dX11_take_68 : decode cX11_take 68 = .ok (.iaload, 1) := by decide +kernel
theorem dX11_take_69 : decode cX11_take 69 = .ok (.iload_n 2, 1) := by decide +kernel
theorem dX11_take_70 : decode cX11_take 70 = .ok (.iadd, 1) := by decide +kernel
theorem dX11_take_71 : decode cX11_take 71 = .ok (.bipush 99, 2) := by decide +kernel
theorem dX11_take_73 : decode cX11_take 73 = .ok (.if_icmp .le 6, 3) := by decide +kernel
theorem dX11_take_76 : decode cX11_take 76 = .ok (.bipush (-5), 2) := by decide +kernel
theorem dX11_take_78 : decode cX11_take 78 = .ok (.ireturn, 1) := by decide +kernel
theorem dX11_take_79 : decode cX11_take 79 = .ok (.aload_n 0, 1) := by decide +kernel
theorem dX11_take_80 : decode cX11_take 80 = .ok (.invokevirtual 248, 3) := by decide +kernel
theorem dX11_take_83 : decode cX11_take 83 = .ok (.aload_n 0, 1) := by decide +kernel
theorem dX11_take_84 : decode cX11_take 84 = .ok (.getfield 25, 3) := by decide +kernel
theorem dX11_take_87 : decode cX11_take 87 = .ok (.bipush 12, 2) := by decide +kernel
theorem dX11_take_89 : decode cX11_take 89 = .ok (.iload_n 3, 1) := by decide +kernel
theorem dX11_take_90 : decode cX11_take 90 = .ok (.iadd, 1) := by decide +kernel
theorem dX11_take_91 : decode cX11_take 91 = .ok (.aload_n 0, 1) := by decide +kernel
theorem dX11_take_92 : decode cX11_take 92 = .ok (.getfield 25, 3) := by decide +kernel
theorem dX11_take_95 : decode cX11_take 95 = .ok (.bipush 12, 2) := by decide +kernel
theorem dX11_take_97 : decode cX11_take 97 = .ok (.iload_n 3, 1) := by decide +kernel
theorem dX11_take_98 : decode cX11_take 98 = .ok (.iadd, 1) := by decide +kernel
theorem dX11_take_99 : decode cX11_take 99 = .ok (.iaload, 1) := by decide +kernel
theorem dX11_take_100 : decode cX11_take 100 = .ok (.invokestatic 254, 3) := by decide +kernel
theorem dX11_take_103 : decode cX11_take 103 = .ok (.iload_n 2, 1) := by decide +kernel
theorem dX11_take_104 : decode cX11_take 104 = .ok (.isub, 1) := by decide +kernel
theorem dX11_take_105 : decode cX11_take 105 = .ok (.iastore, 1) := by decide +kernel
theorem dX11_take_106 : decode cX11_take 106 = .ok (.aload_n 0, 1) := by decide +kernel
theorem dX11_take_107 : decode cX11_take 107 = .ok (.getfield 25, 3) := by decide +kernel
theorem dX11_take_110 : decode cX11_take 110 = .ok (.bipush 8, 2) := by decide +kernel
theorem dX11_take_112 : decode cX11_take 112 = .ok (.iload_n 1, 1) := by decide +kernel
theorem dX11_take_113 : decode cX11_take 113 = .ok (.iadd, 1) := by decide +kernel
theorem dX11_take_114 : decode cX11_take 114 = .ok (.dup2, 1) := by decide +kernel
theorem dX11_take_115 : decode cX11_take 115 = .ok (.iaload, 1) := by decide +kernel
theorem dX11_take_116 : decode cX11_take 116 = .ok (.iload_n 2, 1) := by decide +kernel
theorem dX11_take_117 : decode cX11_take 117 = .ok (.iadd, 1) := by decide +kernel
theorem dX11_take_118 : decode cX11_take 118 = .ok (.iastore, 1) := by decide +kernel
theorem dX11_take_119 : decode cX11_take 119 = .ok (.aload_n 0, 1) := by decide +kernel
theorem dX11_take_120 : decode cX11_take 120 = .ok (.getfield 25, 3) := by decide +kernel
theorem dX11_take_123 : decode cX11_take 123 = .ok (.bipush 8, 2) := by decide +kernel
theorem dX11_take_125 : decode cX11_take 125 = .ok (.iload_n 1, 1) := by decide +kernel
theorem dX11_take_126 : decode cX11_take 126 = .ok (.iadd, 1) := by decide +kernel
theorem dX11_take_127 : decode cX11_take 127 = .ok (.iaload, 1) := by decide +kernel
theorem dX11_take_128 : decode cX11_take 128 = .ok (.ireturn, 1) := by decide +kernel
set_option maxRecDepth 20000 in
theorem ggX11_sell_X11_isCart : GoodIn wsX11_sell wsX11_isCart := goodIn_r _ [7, 8, 9, 10, 6, 11, 24, 25, 26, 27, 28, 29, 30, 31, 32, 33, 34, 35, 36, 37, 38, 39, 40, 41, 42, 43, 44, 45, 46, 47, 48, 49, 50, 51, 52, 53, 54, 55, 56, 57, 58, 59, 60, 61, 62] (by decide +kernel) (by decide +kernel)
set_option maxRecDepth 20000 in
theorem gX11_sell_X11_isCart : GoodIn wsX11_sell (wsV RX11 225 RX11 yX11_isCart wsX11_isCart) := goodIn_app (goodIn_of _ (by decide +kernel)) ggX11_sell_X11_isCart
set_option maxRecDepth 20000 in
theorem ggX11_sell_X11_note : GoodIn wsX11_sell wsX11_note := goodIn_r _ [15, 16, 17, 2, 18, 19, 6, 20, 24, 25, 26, 27, 28, 29, 30, 31, 32, 33, 34, 35, 36, 37, 38, 39, 40, 41, 42, 43, 44, 45, 46, 47, 48, 49, 50, 51, 52, 53, 54, 55, 56, 57, 58, 59, 60, 61, 62] (by decide +kernel) (by decide +kernel)
set_option maxRecDepth 20000 in
theorem gX11_sell_X11_note : GoodIn wsX11_sell (wsV RX11 248 RX11 yX11_note wsX11_note) := goodIn_app (goodIn_of _ (by decide +kernel)) ggX11_sell_X11_note
set_option maxRecDepth 20000 in
theorem ggX11_sell_X11_priceIn : GoodIn wsX11_sell wsX11_priceIn := goodIn_r _ [23] (by decide +kernel) (by decide +kernel)
set_option maxRecDepth 20000 in
theorem gX11_sell_X11_priceIn : GoodIn wsX11_sell (va_wsS RX11 241 yX11_priceIn wsX11_priceIn) := goodIn_app (goodIn_of _ (by decide +kernel)) ggX11_sell_X11_priceIn
theorem dX11_sell_0 : decode cX11_sell 0 = .ok (.aload_n 0, 1) := by decide +kernel
theorem dX11_sell_1 : decode cX11_sell 1 = .ok (.iload_n 1, 1) := by decide +kernel
theorem dX11_sell_2 : decode cX11_sell 2 = .ok (.invokevirtual 225, 3) := by decide +kernel
theorem dX11_sell_5 : decode cX11_sell 5 = .ok (.ifCond .ne 6, 3) := by decide +kernel
theorem dX11_sell_8 : decode cX11_sell 8 = .ok (.bipush (-2), 2) := by decide +kernel
theorem dX11_sell_10 : decode cX11_sell 10 = .ok (.ireturn, 1) := by decide +kernel
theorem dX11_sell_11 : decode cX11_sell 11 = .ok (.aload_n 0, 1) := by decide +kernel
theorem dX11_sell_12 : decode cX11_sell 12 = .ok (.getfield 7, 3) := by decide +kernel
theorem dX11_sell_15 : decode cX11_sell 15 = .ok (.aload_n 0, 1) := by decide +kernel
theorem dX11_sell_16 : decode cX11_sell 16 = .ok (.getfield 25, 3) := by decide +kernel
theorem dX11_sell_19 : decode cX11_sell 19 = .ok (.iload_n 1, 1) := by decide +kernel
theorem dX11_sell_20 : decode cX11_sell 20 = .ok (.iaload, 1) := by decide +kernel
theorem dX11_sell_21 : decode cX11_sell 21 = .ok (.iaload, 1) := by decide +kernel
theorem dX11_sell_22 : decode cX11_sell 22 = .ok (.iconst 3, 1) := by decide +kernel
theorem dX11_sell_23 : decode cX11_sell 23 = .ok (.if_icmp .eq 6, 3) := by decide +kernel
theorem dX11_sell_26 : decode cX11_sell 26 = .ok (.bipush (-4), 2) := by decide +kernel
theorem dX11_sell_28 : decode cX11_sell 28 = .ok (.ireturn, 1) := by decide +kernel
theorem dX11_sell_29 : decode cX11_sell 29 = .ok (.aload_n 0, 1) := by decide +kernel
theorem dX11_sell_30 : decode cX11_sell 30 = .ok (.invokevirtual 248, 3) := by decide +kernel
theorem dX11_sell_33 : decode cX11_sell 33 = .ok (.aload_n 0, 1) := by decide +kernel
theorem dX11_sell_34 : decode cX11_sell 34 = .ok (.getfield 25, 3) := by decide +kernel
theorem dX11_sell_37 : decode cX11_sell 37 = .ok (.bipush 8, 2) := by decide +kernel
theorem dX11_sell_39 : decode cX11_sell 39 = .ok (.iload_n 1, 1) := by decide +kernel
theorem dX11_sell_40 : decode cX11_sell 40 = .ok (.iadd, 1) := by decide +kernel
theorem dX11_sell_41 : decode cX11_sell 41 = .ok (.iaload, 1) := by decide +kernel
theorem dX11_sell_42 : decode cX11_sell 42 = .ok (.aload_n 0, 1) := by decide +kernel
theorem dX11_sell_43 : decode cX11_sell 43 = .ok (.getfield 25, 3) := by decide +kernel
theorem dX11_sell_46 : decode cX11_sell 46 = .ok (.iconst 4, 1) := by decide +kernel
theorem dX11_sell_47 : decode cX11_sell 47 = .ok (.iload_n 1, 1) := by decide +kernel
theorem dX11_sell_48 : decode cX11_sell 48 = .ok (.iadd, 1) := by decide +kernel
theorem dX11_sell_49 : decode cX11_sell 49 = .ok (.iaload, 1) := by decide +kernel
theorem dX11_sell_50 : decode cX11_sell 50 = .ok (.invokestatic 241, 3) := by decide +kernel
theorem dX11_sell_53 : decode cX11_sell 53 = .ok (.imul, 1) := by decide +kernel
theorem dX11_sell_54 : decode cX11_sell 54 = .ok (.istore_n 2, 1) := by decide +kernel
theorem dX11_sell_55 : decode cX11_sell 55 = .ok (.aload_n 0, 1) := by decide +kernel
theorem dX11_sell_56 : decode cX11_sell 56 = .ok (.getfield 25, 3) := by decide +kernel
theorem dX11_sell_59 : decode cX11_sell 59 = .ok (.bipush 8, 2) := by decide +kernel
theorem dX11_sell_61 : decode cX11_sell 61 = .ok (.iload_n 1, 1) := by decide +kernel
theorem dX11_sell_62 : decode cX11_sell 62 = .ok (.iadd, 1) := by decide +kernel
theorem dX11_sell_63 : decode cX11_sell 63 = .ok (.iconst 0, 1) := by decide +kernel
theorem dX11_sell_64 : decode cX11_sell 64 = .ok (.iastore, 1) := by decide +kernel
theorem dX11_sell_65 : decode cX11_sell 65 = .ok (.aload_n 0, 1) := by decide +kernel
theorem dX11_sell_66 : decode cX11_sell 66 = .ok (.getfield 25, 3) := by decide +kernel
theorem dX11_sell_69 : decode cX11_sell 69 = .ok (.bipush 19, 2) := by decide +kernel
theorem dX11_sell_71 : decode cX11_sell 71 = .ok (.dup2, 1) := by decide +kernel
theorem dX11_sell_72 : decode cX11_sell 72 = .ok (.iaload, 1) := by decide +kernel
theorem dX11_sell_73 : decode cX11_sell 73 = .ok (.iload_n 2, 1) := by decide +kernel
theorem dX11_sell_74 : decode cX11_sell 74 = .ok (.iadd, 1) := by decide +kernel
theorem dX11_sell_75 : decode cX11_sell 75 = .ok (.iastore, 1) := by decide +kernel
theorem dX11_sell_76 : decode cX11_sell 76 = .ok (.iload_n 2, 1) := by decide +kernel
theorem dX11_sell_77 : decode cX11_sell 77 = .ok (.ireturn, 1) := by decide +kernel
set_option maxRecDepth 20000 in
theorem ggX11_undo_X11_copy : GoodIn wsX11_undo wsX11_copy := goodIn_r _ [7] (by decide +kernel) (by decide +kernel)
set_option maxRecDepth 20000 in
theorem gX11_undo_X11_copy : GoodIn wsX11_undo (va_wsS RX11 244 yX11_copy wsX11_copy) := goodIn_app (goodIn_of _ (by decide +kernel)) ggX11_undo_X11_copy
theorem dX11_undo_0 : decode cX11_undo 0 = .ok (.aload_n 0, 1) := by decide +kernel
theorem dX11_undo_1 : decode cX11_undo 1 = .ok (.getfield 82, 3) := by decide +kernel
theorem dX11_undo_4 : decode cX11_undo 4 = .ok (.ifCond .ne 6, 3) := by decide +kernel
theorem dX11_undo_7 : decode cX11_undo 7 = .ok (.bipush (-4), 2) := by decide +kernel
theorem dX11_undo_9 : decode cX11_undo 9 = .ok (.ireturn, 1) := by decide +kernel
theorem dX11_undo_10 : decode cX11_undo 10 = .ok (.aload_n 0, 1) := by decide +kernel
theorem dX11_undo_11 : decode cX11_undo 11 = .ok (.dup, 1) := by decide +kernel
theorem dX11_undo_12 : decode cX11_undo 12 = .ok (.getfield 82, 3) := by decide +kernel
theorem dX11_undo_15 : decode cX11_undo 15 = .ok (.iconst 1, 1) := by decide +kernel
theorem dX11_undo_16 : decode cX11_undo 16 = .ok (.isub, 1) := by decide +kernel
theorem dX11_undo_17 : decode cX11_undo 17 = .ok (.putfield 82, 3) := by decide +kernel
theorem dX11_undo_20 : decode cX11_undo 20 = .ok (.aload_n 0, 1) := by decide +kernel
theorem dX11_undo_21 : decode cX11_undo 21 = .ok (.getfield 35, 3) := by decide +kernel
theorem dX11_undo_24 : decode cX11_undo 24 = .ok (.bipush 20, 2) := by decide +kernel
theorem dX11_undo_26 : decode cX11_undo 26 = .ok (.aload_n 0, 1) := by decide +kernel
theorem dX11_undo_27 : decode cX11_undo 27 = .ok (.getfield 82, 3) := by decide +kernel
theorem dX11_undo_30 : decode cX11_undo 30 = .ok (.imul, 1) := by decide +kernel
theorem dX11_undo_31 : decode cX11_undo 31 = .ok (.aload_n 0, 1) := by decide +kernel
theorem dX11_undo_32 : decode cX11_undo 32 = .ok (.getfield 25, 3) := by decide +kernel
theorem dX11_undo_35 : decode cX11_undo 35 = .ok (.iconst 0, 1) := by decide +kernel
theorem dX11_undo_36 : decode cX11_undo 36 = .ok (.invokestatic 244, 3) := by decide +kernel
theorem dX11_undo_39 : decode cX11_undo 39 = .ok (.aload_n 0, 1) := by decide +kernel
theorem dX11_undo_40 : decode cX11_undo 40 = .ok (.getfield 82, 3) := by decide +kernel
theorem dX11_undo_43 : decode cX11_undo 43 = .ok (.ireturn, 1) := by decide +kernel
set_option maxRecDepth 20000 in
theorem ggX11_keep_X11_in : GoodIn wsX11_keep wsX11_in := goodIn_r _ [7] (by decide +kernel) (by decide +kernel)
set_option maxRecDepth 20000 in
theorem gX11_keep_X11_in : GoodIn wsX11_keep (va_wsS RX11 94 yX11_in wsX11_in) := goodIn_app (goodIn_of _ (by decide +kernel)) ggX11_keep_X11_in
set_option maxRecDepth 20000 in
theorem ggX11_keep_X11_copy : GoodIn wsX11_keep wsX11_copy := goodIn_r _ [10] (by decide +kernel) (by decide +kernel)
set_option maxRecDepth 20000 in
theorem gX11_keep_X11_copy : GoodIn wsX11_keep (va_wsS RX11 244 yX11_copy wsX11_copy) := goodIn_app (goodIn_of _ (by decide +kernel)) ggX11_keep_X11_copy
theorem dX11_keep_0 : decode cX11_keep 0 = .ok (.iload_n 1, 1) := by decide +kernel
theorem dX11_keep_1 : decode cX11_keep 1 = .ok (.iconst 0, 1) := by decide +kernel
theorem dX11_keep_2 : decode cX11_keep 2 = .ok (.iconst 1, 1) := by decide +kernel
theorem dX11_keep_3 : decode cX11_keep 3 = .ok (.invokestatic 94, 3) := by decide +kernel
theorem dX11_keep_6 : decode cX11_keep 6 = .ok (.ifCond .ne 6, 3) := by decide +kernel
theorem dX11_keep_9 : decode cX11_keep 9 = .ok (.bipush (-2), 2) := by decide +kernel
theorem dX11_keep_11 : decode cX11_keep 11 = .ok (.ireturn, 1) := by decide +kernel
theorem dX11_keep_12 : decode cX11_keep 12 = .ok (.aload_n 0, 1) := by decide +kernel
theorem dX11_keep_13 : decode cX11_keep 13 = .ok (.getfield 25, 3) := by decide +kernel
theorem dX11_keep_16 : decode cX11_keep 16 = .ok (.iconst 0, 1) := by decide +kernel
theorem dX11_keep_17 : decode cX11_keep 17 = .ok (.aload_n 0, 1) := by decide +kernel
theorem dX11_keep_18 : decode cX11_keep 18 = .ok (.getfield 28, 3) := by decide +kernel
theorem dX11_keep_21 : decode cX11_keep 21 = .ok (.bipush 20, 2) := by decide +kernel
theorem dX11_keep_23 : decode cX11_keep 23 = .ok (.iload_n 1, 1) := by decide +kernel
theorem dX11_keep_24 : decode cX11_keep 24 = .ok (.imul, 1) := by decide +kernel
theorem dX11_keep_25 : decode cX11_keep 25 = .ok (.invokestatic 244, 3) := by decide +kernel
