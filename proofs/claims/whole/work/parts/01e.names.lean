theorem dX10_sell_62 : decode cX10_sell 62 = .ok (.iload_n 1, 1) := by decide +kernel
theorem dX10_sell_63 : decode cX10_sell 63 = .ok (.iconst 0, 1) := by decide +kernel
theorem dX10_sell_64 : decode cX10_sell 64 = .ok (.iastore, 1) := by decide +kernel
theorem dX10_sell_65 : decode cX10_sell 65 = .ok (.aload_n 2, 1) := by decide +kernel
theorem dX10_sell_66 : decode cX10_sell 66 = .ok (.dup, 1) := by decide +kernel
theorem dX10_sell_67 : decode cX10_sell 67 = .ok (.getfield 201, 3) := by decide +kernel
theorem dX10_sell_70 : decode cX10_sell 70 = .ok (.iload_n 3, 1) := by decide +kernel
theorem dX10_sell_71 : decode cX10_sell 71 = .ok (.iadd, 1) := by decide +kernel
theorem dX10_sell_72 : decode cX10_sell 72 = .ok (.putfield 201, 3) := by decide +kernel
theorem dX10_sell_75 : decode cX10_sell 75 = .ok (.iload_n 3, 1) := by decide +kernel
theorem dX10_sell_76 : decode cX10_sell 76 = .ok (.ireturn, 1) := by decide +kernel
set_option maxRecDepth 20000 in
theorem ggX10_undo_X0_recall : GoodIn wsX10_undo wsX0_recall := goodIn_r _ [7, 8, 9, 10, 11, 12, 13, 14, 15, 16, 17, 18, 19, 20, 21, 22, 23, 24, 25, 35, 36, 37, 38, 39, 40, 41, 42, 43, 44, 45] (by decide +kernel) (by decide +kernel)
set_option maxRecDepth 20000 in
theorem gX10_undo_X0_recall : GoodIn wsX10_undo (wsV RX10 204 RX0 yX0_recall wsX0_recall) := goodIn_app (goodIn_of _ (by decide +kernel)) ggX10_undo_X0_recall
theorem dX10_undo_0 : decode cX10_undo 0 = .ok (.aload_n 0, 1) := by decide +kernel
theorem dX10_undo_1 : decode cX10_undo 1 = .ok (.getfield 26, 3) := by decide +kernel
theorem dX10_undo_4 : decode cX10_undo 4 = .ok (.invokevirtual 204, 3) := by decide +kernel
theorem dX10_undo_7 : decode cX10_undo 7 = .ok (.ifCond .eq 13, 3) := by decide +kernel
theorem dX10_undo_10 : decode cX10_undo 10 = .ok (.aload_n 0, 1) := by decide +kernel
theorem dX10_undo_11 : decode cX10_undo 11 = .ok (.getfield 26, 3) := by decide +kernel
theorem dX10_undo_14 : decode cX10_undo 14 = .ok (.getfield 208, 3) := by decide +kernel
theorem dX10_undo_17 : decode cX10_undo 17 = .ok (.goto 5, 3) := by decide +kernel
theorem dX10_undo_20 : decode cX10_undo 20 = .ok (.bipush (-4), 2) := by decide +kernel
theorem dX10_undo_22 : decode cX10_undo 22 = .ok (.ireturn, 1) := by decide +kernel
set_option maxRecDepth 20000 in
theorem ggX10_keep_X10_within : GoodIn wsX10_keep wsX10_within := goodIn_r _ [5] (by decide +kernel) (by decide +kernel)
set_option maxRecDepth 20000 in
theorem gX10_keep_X10_within : GoodIn wsX10_keep (va_wsS RX10 64 yX10_within wsX10_within) := goodIn_app (goodIn_of _ (by decide +kernel)) ggX10_keep_X10_within
set_option maxRecDepth 20000 in
theorem ggX10_keep_X0_preserve : GoodIn wsX10_keep wsX0_preserve := goodIn_r _ [10, 11, 12, 13, 14, 15, 16, 17, 18, 19, 20, 21, 22, 23, 24, 25, 26, 27, 37, 38, 39, 40, 41, 42, 43, 44, 45, 46, 47] (by decide +kernel) (by decide +kernel)
set_option maxRecDepth 20000 in
theorem gX10_keep_X0_preserve : GoodIn wsX10_keep (wsV RX10 211 RX0 yX0_preserve wsX0_preserve) := goodIn_app (goodIn_of _ (by decide +kernel)) ggX10_keep_X0_preserve
theorem dX10_keep_0 : decode cX10_keep 0 = .ok (.iload_n 1, 1) := by decide +kernel
theorem dX10_keep_1 : decode cX10_keep 1 = .ok (.iconst 0, 1) := by decide +kernel
theorem dX10_keep_2 : decode cX10_keep 2 = .ok (.iconst 1, 1) := by decide +kernel
theorem dX10_keep_3 : decode cX10_keep 3 = .ok (.invokestatic 64, 3) := by decide +kernel
theorem dX10_keep_6 : decode cX10_keep 6 = .ok (.ifCond .ne 6, 3) := by decide +kernel
theorem dX10_keep_9 : decode cX10_keep 9 = .ok (.bipush (-2), 2) := by decide +kernel
theorem dX10_keep_11 : decode cX10_keep 11 = .ok (.ireturn, 1) := by decide +kernel
theorem dX10_keep_12 : decode cX10_keep 12 = .ok (.aload_n 0, 1) := by decide +kernel
theorem dX10_keep_13 : decode cX10_keep 13 = .ok (.getfield 26, 3) := by decide +kernel
theorem dX10_keep_16 : decode cX10_keep 16 = .ok (.iload_n 1, 1) := by decide +kernel
theorem dX10_keep_17 : decode cX10_keep 17 = .ok (.invokevirtual 211, 3) := by decide +kernel
theorem dX10_keep_20 : decode cX10_keep 20 = .ok (.iload_n 1, 1) := by decide +kernel
theorem dX10_keep_21 : decode cX10_keep 21 = .ok (.ireturn, 1) := by decide +kernel
set_option maxRecDepth 20000 in
theorem ggX10_back_X10_within : GoodIn wsX10_back wsX10_within := goodIn_r _ [5] (by decide +kernel) (by decide +kernel)
set_option maxRecDepth 20000 in
theorem gX10_back_X10_within : GoodIn wsX10_back (va_wsS RX10 64 yX10_within wsX10_within) := goodIn_app (goodIn_of _ (by decide +kernel)) ggX10_back_X10_within
set_option maxRecDepth 20000 in
theorem ggX10_back_X0_restore : GoodIn wsX10_back wsX0_restore := goodIn_r _ [10, 11, 12, 13, 14, 15, 16, 17, 18, 19, 20, 21, 22, 23, 24, 25, 26, 27, 28, 38, 39, 40, 41, 42, 43, 44, 45, 46, 47, 48] (by decide +kernel) (by decide +kernel)
set_option maxRecDepth 20000 in
theorem gX10_back_X0_restore : GoodIn wsX10_back (wsV RX10 215 RX0 yX0_restore wsX0_restore) := goodIn_app (goodIn_of _ (by decide +kernel)) ggX10_back_X0_restore
theorem dX10_back_0 : decode cX10_back 0 = .ok (.iload_n 1, 1) := by decide +kernel
theorem dX10_back_1 : decode cX10_back 1 = .ok (.iconst 0, 1) := by decide +kernel
theorem dX10_back_2 : decode cX10_back 2 = .ok (.iconst 1, 1) := by decide +kernel
theorem dX10_back_3 : decode cX10_back 3 = .ok (.invokestatic 64, 3) := by decide +kernel
theorem dX10_back_6 : decode cX10_back 6 = .ok (.ifCond .ne 6, 3) := by decide +kernel
theorem dX10_back_9 : decode cX10_back 9 = .ok (.bipush (-2), 2) := by decide +kernel
theorem dX10_back_11 : decode cX10_back 11 = .ok (.ireturn, 1) := by decide +kernel
theorem dX10_back_12 : decode cX10_back 12 = .ok (.aload_n 0, 1) := by decide +kernel
theorem dX10_back_13 : decode cX10_back 13 = .ok (.getfield 26, 3) := by decide +kernel
theorem dX10_back_16 : decode cX10_back 16 = .ok (.iload_n 1, 1) := by decide +kernel
theorem dX10_back_17 : decode cX10_back 17 = .ok (.invokevirtual 215, 3) := by decide +kernel
theorem dX10_back_20 : decode cX10_back 20 = .ok (.ifCond .eq 7, 3) := by decide +kernel
theorem dX10_back_23 : decode cX10_back 23 = .ok (.iload_n 1, 1) := by decide +kernel
theorem dX10_back_24 : decode cX10_back 24 = .ok (.goto 5, 3) := by decide +kernel
theorem dX10_back_27 : decode cX10_back 27 = .ok (.bipush (-4), 2) := by decide +kernel
theorem dX10_back_29 : decode cX10_back 29 = .ok (.ireturn, 1) := by decide +kernel
set_option maxRecDepth 20000 in
theorem ggX10_comes_X1_hasCart : GoodIn wsX10_comes wsX1_hasCart := goodIn_r _ [8, 9, 120, 121, 122, 123, 124, 125, 126, 127, 128, 129, 130, 131] (by decide +kernel) (by decide +kernel)
set_option maxRecDepth 20000 in
theorem gX10_comes_X1_hasCart : GoodIn wsX10_comes (wsV RX10 136 RX1 yX1_hasCart wsX1_hasCart) := goodIn_app (goodIn_of _ (by decide +kernel)) ggX10_comes_X1_hasCart
set_option maxRecDepth 20000 in
theorem ggX10_comes_X1_hasPlace : GoodIn wsX10_comes wsX1_hasPlace := goodIn_r _ [13, 14, 120, 121, 122, 123, 124, 125, 126, 127, 128, 129, 130, 131] (by decide +kernel) (by decide +kernel)
set_option maxRecDepth 20000 in
theorem gX10_comes_X1_hasPlace : GoodIn wsX10_comes (wsV RX10 94 RX1 yX1_hasPlace wsX1_hasPlace) := goodIn_app (goodIn_of _ (by decide +kernel)) ggX10_comes_X1_hasPlace
set_option maxRecDepth 20000 in
theorem ggX10_comes_X10_within : GoodIn wsX10_comes wsX10_within := goodIn_r _ [18] (by decide +kernel) (by decide +kernel)
set_option maxRecDepth 20000 in
theorem gX10_comes_X10_within : GoodIn wsX10_comes (va_wsS RX10 64 yX10_within wsX10_within) := goodIn_app (goodIn_of _ (by decide +kernel)) ggX10_comes_X10_within
set_option maxRecDepth 20000 in
theorem ggX10_comes_X10_spreadFrom : GoodIn wsX10_comes wsX10_spreadFrom := goodIn_r _ [22, 23, 24, 25, 26, 27, 1, 28, 29, 30, 31, 32, 33, 34, 35, 36, 37, 38, 39, 40, 41, 42, 43, 44, 45, 46, 47, 48, 49, 50, 51, 52, 53, 54, 55, 56, 57, 58, 59, 60, 7, 61, 62, 63, 64, 65, 66, 67, 68, 69, 70, 71, 72, 73, 74, 75, 76, 77, 78, 79, 80, 81, 82, 83, 84, 85, 86, 87, 88, 89, 90, 91, 92, 93, 94, 95, 96, 97, 111, 112, 113, 114, 115, 116, 117, 118, 119, 132, 133, 134, 135, 136, 137, 138, 139, 140, 141, 142, 120, 121, 122, 123, 124, 125, 126, 127, 128, 129, 130, 131, 143] (by decide +kernel) (by decide +kernel)
set_option maxRecDepth 20000 in
theorem gX10_comes_X10_spreadFrom : GoodIn wsX10_comes (wsV RX10 218 RX10 yX10_spreadFrom wsX10_spreadFrom) := goodIn_app (goodIn_of _ (by decide +kernel)) ggX10_comes_X10_spreadFrom
set_option maxRecDepth 20000 in
theorem ggX10_comes_X5_unlikeIn : GoodIn wsX10_comes wsX5_unlikeIn := goodIn_r _ [101, 34, 143] (by decide +kernel) (by decide +kernel)
set_option maxRecDepth 20000 in
theorem gX10_comes_X5_unlikeIn : GoodIn wsX10_comes (wsV RX10 222 RX5 yX5_unlikeIn wsX5_unlikeIn) := goodIn_app (goodIn_of _ (by decide +kernel)) ggX10_comes_X5_unlikeIn
set_option maxRecDepth 20000 in
theorem ggX10_comes_X5_mostIn : GoodIn wsX10_comes wsX5_mostIn := goodIn_r _ [105, 34, 143] (by decide +kernel) (by decide +kernel)
set_option maxRecDepth 20000 in
theorem gX10_comes_X5_mostIn : GoodIn wsX10_comes (wsV RX10 225 RX5 yX5_mostIn wsX5_mostIn) := goodIn_app (goodIn_of _ (by decide +kernel)) ggX10_comes_X5_mostIn
set_option maxRecDepth 20000 in
theorem ggX10_comes_X5_soonestOfMost : GoodIn wsX10_comes wsX5_soonestOfMost := goodIn_r _ [109, 34, 110, 103, 104, 32, 105, 143] (by decide +kernel) (by decide +kernel)
set_option maxRecDepth 20000 in
theorem gX10_comes_X5_soonestOfMost : GoodIn wsX10_comes (wsV RX10 228 RX5 yX5_soonestOfMost wsX5_soonestOfMost) := goodIn_app (goodIn_of _ (by decide +kernel)) ggX10_comes_X5_soonestOfMost
theorem dX10_comes_0 : decode cX10_comes 0 = .ok (.aload_n 0, 1) := by decide +kernel
theorem dX10_comes_1 : decode cX10_comes 1 = .ok (.getfield 19, 3) := by decide +kernel
theorem dX10_comes_4 : decode cX10_comes 4 = .ok (.iload_n 1, 1) := by decide +kernel
theorem dX10_comes_5 : decode cX10_comes 5 = .ok (.invokevirtual 136, 3) := by decide +kernel
theorem dX10_comes_8 : decode cX10_comes 8 = .ok (.ifCond .eq 14, 3) := by decide +kernel
theorem dX10_comes_11 : decode cX10_comes 11 = .ok (.aload_n 0, 1) := by decide +kernel
theorem dX10_comes_12 : decode cX10_comes 12 = .ok (.getfield 19, 3) := by decide +kernel
theorem dX10_comes_15 : decode cX10_comes 15 = .ok (.iload_n 2, 1) := by decide +kernel
theorem dX10_comes_16 : decode cX10_comes 16 = .ok (.invokevirtual 94, 3) := by decide +kernel
theorem dX10_comes_19 : decode cX10_comes 19 = .ok (.ifCond .ne 6, 3) := by decide +kernel
theorem dX10_comes_22 : decode cX10_comes 22 = .ok (.bipush (-2), 2) := by decide +kernel
theorem dX10_comes_24 : decode cX10_comes 24 = .ok (.ireturn, 1) := by decide +kernel
theorem dX10_comes_25 : decode cX10_comes 25 = .ok (.iload_n 3, 1) := by decide +kernel
theorem dX10_comes_26 : decode cX10_comes 26 = .ok (.iconst 0, 1) := by decide +kernel
theorem dX10_comes_27 : decode cX10_comes 27 = .ok (.iconst 2, 1) := by decide +kernel
theorem dX10_comes_28 : decode cX10_comes 28 = .ok (.invokestatic 64, 3) := by decide +kernel
theorem dX10_comes_31 : decode cX10_comes 31 = .ok (.ifCond .ne 6, 3) := by decide +kernel
theorem dX10_comes_34 : decode cX10_comes 34 = .ok (.bipush (-3), 2) := by decide +kernel
theorem dX10_comes_36 : decode cX10_comes 36 = .ok (.ireturn, 1) := by decide +kernel
theorem dX10_comes_37 : decode cX10_comes 37 = .ok (.aload_n 0, 1) := by decide +kernel
theorem dX10_comes_38 : decode cX10_comes 38 = .ok (.aload_n 0, 1) := by decide +kernel
theorem dX10_comes_39 : decode cX10_comes 39 = .ok (.getfield 54, 3) := by decide +kernel
theorem dX10_comes_42 : decode cX10_comes 42 = .ok (.iload_n 1, 1) := by decide +kernel
theorem dX10_comes_43 : decode cX10_comes 43 = .ok (.aload_n 0, 1) := by decide +kernel
theorem dX10_comes_44 : decode cX10_comes 44 = .ok (.getfield 19, 3) := by decide +kernel
theorem dX10_comes_47 : decode cX10_comes 47 = .ok (.getfield 142, 3) := by decide +kernel
theorem dX10_comes_50 : decode cX10_comes 50 = .ok (.iload_n 1, 1) := by decide +kernel
theorem dX10_comes_51 : decode cX10_comes 51 = .ok (.iaload, 1) := by decide +kernel
theorem dX10_comes_52 : decode cX10_comes 52 = .ok (.invokevirtual 218, 3) := by decide +kernel
theorem dX10_comes_55 : decode cX10_comes 55 = .ok (.iload_n 3, 1) := by decide +kernel
theorem dX10_comes_56 : decode cX10_comes 56 = .ok (.iconst 2, 1) := by decide +kernel
theorem dX10_comes_57 : decode cX10_comes 57 = .ok (.if_icmp .ne 12, 3) := by decide +kernel
theorem dX10_comes_60 : decode cX10_comes 60 = .ok (.aload_n 0, 1) := by decide +kernel
theorem dX10_comes_61 : decode cX10_comes 61 = .ok (.getfield 54, 3) := by decide +kernel
theorem dX10_comes_64 : decode cX10_comes 64 = .ok (.iload_n 2, 1) := by decide +kernel
theorem dX10_comes_65 : decode cX10_comes 65 = .ok (.invokevirtual 222, 3) := by decide +kernel
theorem dX10_comes_68 : decode cX10_comes 68 = .ok (.ireturn, 1) := by decide +kernel
theorem dX10_comes_69 : decode cX10_comes 69 = .ok (.iload_n 3, 1) := by decide +kernel
theorem dX10_comes_70 : decode cX10_comes 70 = .ok (.ifCond .ne 14, 3) := by decide +kernel
theorem dX10_comes_73 : decode cX10_comes 73 = .ok (.aload_n 0, 1) := by decide +kernel
theorem dX10_comes_74 : decode cX10_comes 74 = .ok (.getfield 54, 3) := by decide +kernel
theorem dX10_comes_77 : decode cX10_comes 77 = .ok (.iload_n 2, 1) := by decide +kernel
theorem dX10_comes_78 : decode cX10_comes 78 = .ok (.invokevirtual 225, 3) := by decide +kernel
theorem dX10_comes_81 : decode cX10_comes 81 = .ok (.goto 11, 3) := by decide +kernel
theorem dX10_comes_84 : decode cX10_comes 84 = .ok (.aload_n 0, 1) := by decide +kernel
theorem dX10_comes_85 : decode cX10_comes 85 = .ok (.getfield 54, 3) := by decide +kernel
theorem dX10_comes_88 : decode cX10_comes 88 = .ok (.iload_n 2, 1) := by decide +kernel
theorem dX10_comes_89 : decode cX10_comes 89 = .ok (.invokevirtual 228, 3) := by decide +kernel
theorem dX10_comes_92 : decode cX10_comes 92 = .ok (.ireturn, 1) := by decide +kernel
set_option maxRecDepth 20000 in
theorem ggX10_straw_X1_hasCart : GoodIn wsX10_straw wsX1_hasCart := goodIn_r _ [7, 8, 110, 111, 112, 113, 114, 115, 116, 117, 118, 119, 120, 121] (by decide +kernel) (by decide +kernel)
set_option maxRecDepth 20000 in
theorem gX10_straw_X1_hasCart : GoodIn wsX10_straw (wsV RX10 136 RX1 yX1_hasCart wsX1_hasCart) := goodIn_app (goodIn_of _ (by decide +kernel)) ggX10_straw_X1_hasCart
set_option maxRecDepth 20000 in
theorem ggX10_straw_X1_hasPlace : GoodIn wsX10_straw wsX1_hasPlace := goodIn_r _ [12, 13, 110, 111, 112, 113, 114, 115, 116, 117, 118, 119, 120, 121] (by decide +kernel) (by decide +kernel)
set_option maxRecDepth 20000 in
theorem gX10_straw_X1_hasPlace : GoodIn wsX10_straw (wsV RX10 94 RX1 yX1_hasPlace wsX1_hasPlace) := goodIn_app (goodIn_of _ (by decide +kernel)) ggX10_straw_X1_hasPlace
set_option maxRecDepth 20000 in
theorem ggX10_straw_X10_within : GoodIn wsX10_straw wsX10_within := goodIn_r _ [17] (by decide +kernel) (by decide +kernel)
set_option maxRecDepth 20000 in
theorem gX10_straw_X10_within : GoodIn wsX10_straw (va_wsS RX10 64 yX10_within wsX10_within) := goodIn_app (goodIn_of _ (by decide +kernel)) ggX10_straw_X10_within
set_option maxRecDepth 20000 in
theorem ggX10_straw_X10_spreadFrom : GoodIn wsX10_straw wsX10_spreadFrom := goodIn_r _ [21, 22, 23, 24, 25, 26, 1, 27, 28, 29, 30, 31, 32, 33, 34, 35, 36, 37, 38, 39, 40, 41, 42, 43, 44, 45, 46, 47, 48, 49, 50, 51, 52, 53, 54, 55, 56, 57, 58, 59, 6, 60, 61, 62, 63, 64, 65, 66, 67, 68, 69, 70, 71, 72, 73, 74, 75, 76, 77, 78, 79, 80, 81, 82, 83, 84, 85, 86, 87, 88, 89, 90, 91, 92, 93, 94, 95, 96, 101, 102, 103, 104, 105, 106, 107, 108, 109, 122, 123, 124, 125, 126, 127, 128, 129, 130, 131, 132, 110, 111, 112, 113, 114, 115, 116, 117, 118, 119, 120, 121, 133] (by decide +kernel) (by decide +kernel)
set_option maxRecDepth 20000 in
theorem gX10_straw_X10_spreadFrom : GoodIn wsX10_straw (wsV RX10 218 RX10 yX10_spreadFrom wsX10_spreadFrom) := goodIn_app (goodIn_of _ (by decide +kernel)) ggX10_straw_X10_spreadFrom
set_option maxRecDepth 20000 in
theorem ggX10_straw_X5_mayHave : GoodIn wsX10_straw wsX5_mayHave := goodIn_r _ [100, 33, 133] (by decide +kernel) (by decide +kernel)
set_option maxRecDepth 20000 in
theorem gX10_straw_X5_mayHave : GoodIn wsX10_straw (wsV RX10 231 RX5 yX5_mayHave wsX5_mayHave) := goodIn_app (goodIn_of _ (by decide +kernel)) ggX10_straw_X5_mayHave
theorem dX10_straw_0 : decode cX10_straw 0 = .ok (.aload_n 0, 1) := by decide +kernel
theorem dX10_straw_1 : decode cX10_straw 1 = .ok (.getfield 19, 3) := by decide +kernel
theorem dX10_straw_4 : decode cX10_straw 4 = .ok (.iload_n 1, 1) := by decide +kernel
theorem dX10_straw_5 : decode cX10_straw 5 = .ok (.invokevirtual 136, 3) := by decide +kernel
theorem dX10_straw_8 : decode cX10_straw 8 = .ok (.ifCond .eq 14, 3) := by decide +kernel
theorem dX10_straw_11 : decode cX10_straw 11 = .ok (.aload_n 0, 1) := by decide +kernel
theorem dX10_straw_12 : decode cX10_straw 12 = .ok (.getfield 19, 3) := by decide +kernel
theorem dX10_straw_15 : decode cX10_straw 15 = .ok (.iload_n 2, 1) := by decide +kernel
theorem dX10_straw_16 : decode cX10_straw 16 = .ok (.invokevirtual 94, 3) := by decide +kernel
theorem dX10_straw_19 : decode cX10_straw 19 = .ok (.ifCond .ne 6, 3) := by decide +kernel
theorem dX10_straw_22 : decode cX10_straw 22 = .ok (.bipush (-2), 2) := by decide +kernel
theorem dX10_straw_24 : decode cX10_straw 24 = .ok (.ireturn, 1) := by decide +kernel
theorem dX10_straw_25 : decode cX10_straw 25 = .ok (.iload_n 3, 1) := by decide +kernel
theorem dX10_straw_26 : decode cX10_straw 26 = .ok (.iconst 0, 1) := by decide +kernel
theorem dX10_straw_27 : decode cX10_straw 27 = .ok (.bipush 99, 2) := by decide +kernel
theorem dX10_straw_29 : decode cX10_straw 29 = .ok (.invokestatic 64, 3) := by decide +kernel
theorem dX10_straw_32 : decode cX10_straw 32 = .ok (.ifCond .eq 14, 3) := by decide +kernel
theorem dX10_straw_35 : decode cX10_straw 35 = .ok (.iload 4, 2) := by decide +kernel
theorem dX10_straw_37 : decode cX10_straw 37 = .ok (.iconst 0, 1) := by decide +kernel
theorem dX10_straw_38 : decode cX10_straw 38 = .ok (.bipush 48, 2) := by decide +kernel
theorem dX10_straw_40 : decode cX10_straw 40 = .ok (.invokestatic 64, 3) := by decide +kernel
theorem dX10_straw_43 : decode cX10_straw 43 = .ok (.ifCond .ne 6, 3) := by decide +kernel
theorem dX10_straw_46 : decode cX10_straw 46 = .ok (.bipush (-3), 2) := by decide +kernel
theorem dX10_straw_48 : decode cX10_straw 48 = .ok (.ireturn, 1) := by decide +kernel
theorem dX10_straw_49 : decode cX10_straw 49 = .ok (.iconst 0, 1) := by decide +kernel
theorem dX10_straw_50 : decode cX10_straw 50 = .ok (.istore 5, 2) := by decide +kernel
theorem dX10_straw_52 : decode cX10_straw 52 = .ok (.iload 5, 2) := by decide +kernel
theorem dX10_straw_54 : decode cX10_straw 54 = .ok (.iconst 3, 1) := by decide +kernel
theorem dX10_straw_55 : decode cX10_straw 55 = .ok (.if_icmp .gt 37, 3) := by decide +kernel
theorem dX10_straw_58 : decode cX10_straw 58 = .ok (.aload_n 0, 1) := by decide +kernel
theorem dX10_straw_59 : decode cX10_straw 59 = .ok (.aload_n 0, 1) := by decide +kernel
theorem dX10_straw_60 : decode cX10_straw 60 = .ok (.getfield 54, 3) := by decide +kernel
theorem dX10_straw_63 : decode cX10_straw 63 = .ok (.iload_n 1, 1) := by decide +kernel
theorem dX10_straw_64 : decode cX10_straw 64 = .ok (.iload 5, 2) := by decide +kernel
theorem dX10_straw_66 : decode cX10_straw 66 = .ok (.invokevirtual 218, 3) := by decide +kernel
theorem dX10_straw_69 : decode cX10_straw 69 = .ok (.aload_n 0, 1) := by decide +kernel
theorem dX10_straw_70 : decode cX10_straw 70 = .ok (.getfield 54, 3) := by decide +kernel
theorem dX10_straw_73 : decode cX10_straw 73 = .ok (.iload_n 2, 1) := by decide +kernel
theorem dX10_straw_74 : decode cX10_straw 74 = .ok (.iload_n 3, 1) := by decide +kernel
theorem dX10_straw_75 : decode cX10_straw 75 = .ok (.iload 4, 2) := by decide +kernel
theorem dX10_straw_77 : decode cX10_straw 77 = .ok (.invokevirtual 231, 3) := by decide +kernel
theorem dX10_straw_80 : decode cX10_straw 80 = .ok (.ifCond .eq 6, 3) := by decide +kernel
theorem dX10_straw_83 : decode cX10_straw 83 = .ok (.iload 5, 2) := by decide +kernel
theorem dX10_straw_85 : decode cX10_straw 85 = .ok (.ireturn, 1) := by decide +kernel
theorem dX10_straw_86 : decode cX10_straw 86 = .ok (.iinc 5 1, 3) := by decide +kernel
theorem dX10_straw_89 : decode cX10_straw 89 = .ok (.goto (-37), 3) := by decide +kernel
theorem dX10_straw_92 : decode cX10_straw 92 = .ok (.iconst (-1), 1) := by decide +kernel
theorem dX10_straw_93 : decode cX10_straw 93 = .ok (.ireturn, 1) := by decide +kernel
set_option maxRecDepth 20000 in
theorem ggX10_meet_X1_hasCart : GoodIn wsX10_meet wsX1_hasCart := goodIn_r _ [12, 13, 124, 125, 126, 127, 128, 129, 130, 131, 132, 133, 134, 135] (by decide +kernel) (by decide +kernel)
set_option maxRecDepth 20000 in
theorem gX10_meet_X1_hasCart : GoodIn wsX10_meet (wsV RX10 136 RX1 yX1_hasCart wsX1_hasCart) := goodIn_app (goodIn_of _ (by decide +kernel)) ggX10_meet_X1_hasCart
set_option maxRecDepth 20000 in
theorem ggX10_meet_X1_hasPlace : GoodIn wsX10_meet wsX1_hasPlace := goodIn_r _ [17, 18, 124, 125, 126, 127, 128, 129, 130, 131, 132, 133, 134, 135] (by decide +kernel) (by decide +kernel)
set_option maxRecDepth 20000 in
theorem gX10_meet_X1_hasPlace : GoodIn wsX10_meet (wsV RX10 94 RX1 yX1_hasPlace wsX1_hasPlace) := goodIn_app (goodIn_of _ (by decide +kernel)) ggX10_meet_X1_hasPlace
set_option maxRecDepth 20000 in
theorem ggX10_meet_X10_within : GoodIn wsX10_meet wsX10_within := goodIn_r _ [22] (by decide +kernel) (by decide +kernel)
set_option maxRecDepth 20000 in
theorem gX10_meet_X10_within : GoodIn wsX10_meet (va_wsS RX10 64 yX10_within wsX10_within) := goodIn_app (goodIn_of _ (by decide +kernel)) ggX10_meet_X10_within
set_option maxRecDepth 20000 in
theorem ggX10_meet_X10_spreadFrom : GoodIn wsX10_meet wsX10_spreadFrom := goodIn_r _ [26, 27, 28, 29, 30, 31, 1, 7, 32, 33, 34, 35, 36, 37, 38, 39, 40, 41, 42, 43, 44, 45, 46, 47, 48, 49, 50, 51, 52, 53, 54, 55, 56, 57, 58, 59, 60, 61, 62, 63, 11, 64, 65, 66, 67, 68, 69, 70, 71, 72, 73, 74, 75, 76, 77, 78, 79, 80, 81, 82, 83, 84, 85, 86, 87, 88, 89, 90, 91, 92, 93, 94, 95, 96, 97, 98, 99, 100, 115, 116, 117, 118, 119, 120, 121, 122, 123, 136, 137, 138, 139, 140, 141, 142, 143, 144, 145, 146, 124, 125, 126, 127, 128, 129, 130, 131, 132, 133, 134, 135, 147] (by decide +kernel) (by decide +kernel)
set_option maxRecDepth 20000 in
theorem gX10_meet_X10_spreadFrom : GoodIn wsX10_meet (wsV RX10 218 RX10 yX10_spreadFrom wsX10_spreadFrom) := goodIn_app (goodIn_of _ (by decide +kernel)) ggX10_meet_X10_spreadFrom
set_option maxRecDepth 20000 in
theorem ggX10_meet_X5_joinOf : GoodIn wsX10_meet wsX5_joinOf := goodIn_r _ [104, 37, 105, 33, 34, 35, 36, 38, 39, 40, 41, 147] (by decide +kernel) (by decide +kernel)
set_option maxRecDepth 20000 in
theorem gX10_meet_X5_joinOf : GoodIn wsX10_meet (wsV RX10 237 RX5 yX5_joinOf wsX5_joinOf) := goodIn_app (goodIn_of _ (by decide +kernel)) ggX10_meet_X5_joinOf
set_option maxRecDepth 20000 in
theorem ggX10_meet_X5_spread : GoodIn wsX10_meet wsX5_spread := goodIn_r _ [49, 50, 37, 51, 52, 53, 35, 54, 55, 56, 57, 58, 59, 60, 61, 62, 63, 11, 64, 65, 66, 67, 68, 69, 70, 71, 72, 73, 74, 75, 76, 77, 78, 79, 80, 81, 82, 83, 84, 43, 44, 45, 85, 86, 87, 88, 89, 90, 91, 92, 93, 94, 95, 96, 97, 98, 99, 100, 124, 125, 126, 127, 128, 129, 130, 131, 132, 133, 134, 135, 147] (by decide +kernel) (by decide +kernel)
set_option maxRecDepth 20000 in
theorem gX10_meet_X5_spread : GoodIn wsX10_meet (wsV RX10 241 RX5 yX5_spread wsX5_spread) := goodIn_app (goodIn_of _ (by decide +kernel)) ggX10_meet_X5_spread
set_option maxRecDepth 20000 in
theorem ggX10_meet_X5_mostIn : GoodIn wsX10_meet wsX5_mostIn := goodIn_r _ [109, 37, 147] (by decide +kernel) (by decide +kernel)
set_option maxRecDepth 20000 in
theorem gX10_meet_X5_mostIn : GoodIn wsX10_meet (wsV RX10 225 RX5 yX5_mostIn wsX5_mostIn) := goodIn_app (goodIn_of _ (by decide +kernel)) ggX10_meet_X5_mostIn
set_option maxRecDepth 20000 in
theorem ggX10_meet_X5_soonestOfMost : GoodIn wsX10_meet wsX5_soonestOfMost := goodIn_r _ [113, 37, 114, 107, 108, 35, 109, 147] (by decide +kernel) (by decide +kernel)
set_option maxRecDepth 20000 in
theorem gX10_meet_X5_soonestOfMost : GoodIn wsX10_meet (wsV RX10 228 RX5 yX5_soonestOfMost wsX5_soonestOfMost) := goodIn_app (goodIn_of _ (by decide +kernel)) ggX10_meet_X5_soonestOfMost
theorem dX10_meet_0 : decode cX10_meet 0 = .ok (.aload_n 0, 1) := by decide +kernel
theorem dX10_meet_1 : decode cX10_meet 1 = .ok (.getfield 19, 3) := by decide +kernel
theorem dX10_meet_4 : decode cX10_meet 4 = .ok (.iload_n 1, 1) := by decide +kernel
theorem dX10_meet_5 : decode cX10_meet 5 = .ok (.invokevirtual 136, 3) := by decide +kernel
theorem dX10_meet_8 : decode cX10_meet 8 = .ok (.ifCond .eq 30, 3) := by decide +kernel
theorem dX10_meet_11 : decode cX10_meet 11 = .ok (.aload_n 0, 1) := by decide +kernel
theorem dX10_meet_12 : decode cX10_meet 12 = .ok (.getfield 19, 3) := by decide +kernel
theorem dX10_meet_15 : decode cX10_meet 15 = .ok (.iload_n 2, 1) := by decide +kernel
theorem dX10_meet_16 : decode cX10_meet 16 = .ok (.invokevirtual 136, 3) := by decide +kernel
theorem dX10_meet_19 : decode cX10_meet 19 = .ok (.ifCond .eq 19, 3) := by decide +kernel
theorem dX10_meet_22 : decode cX10_meet 22 = .ok (.iload_n 1, 1) := by decide +kernel
theorem dX10_meet_23 : decode cX10_meet 23 = .ok (.iload_n 2, 1) := by decide +kernel
theorem dX10_meet_24 : decode cX10_meet 24 = .ok (.if_icmp .eq 14, 3) := by decide +kernel
theorem dX10_meet_27 : decode cX10_meet 27 = .ok (.aload_n 0, 1) := by decide +kernel
theorem dX10_meet_28 : decode cX10_meet 28 = .ok (.getfield 19, 3) := by decide +kernel
theorem dX10_meet_31 : decode cX10_meet 31 = .ok (.iload_n 3, 1) := by decide +kernel
theorem dX10_meet_32 : decode cX10_meet 32 = .ok (.invokevirtual 94, 3) := by decide +kernel
theorem dX10_meet_35 : decode cX10_meet 35 = .ok (.ifCond .ne 6, 3) := by decide +kernel
theorem dX10_meet_38 : decode cX10_meet 38 = .ok (.bipush (-2), 2) := by decide +kernel
theorem dX10_meet_40 : decode cX10_meet 40 = .ok (.ireturn, 1) := by decide +kernel
theorem dX10_meet_41 : decode cX10_meet 41 = .ok (.iload 4, 2) := by decide +kernel
theorem dX10_meet_43 : decode cX10_meet 43 = .ok (.iconst 0, 1) := by decide +kernel
theorem dX10_meet_44 : decode cX10_meet 44 = .ok (.iconst 1, 1) := by decide +kernel
theorem dX10_meet_45 : decode cX10_meet 45 = .ok (.invokestatic 64, 3) := by decide +kernel
theorem dX10_meet_48 : decode cX10_meet 48 = .ok (.ifCond .ne 6, 3) := by decide +kernel
theorem dX10_meet_51 : decode cX10_meet 51 = .ok (.bipush (-3), 2) := by decide +kernel
theorem dX10_meet_53 : decode cX10_meet 53 = .ok (.ireturn, 1) := by decide +kernel
theorem dX10_meet_54 : decode cX10_meet 54 = .ok (.aload_n 0, 1) := by decide +kernel
theorem dX10_meet_55 : decode cX10_meet 55 = .ok (.aload_n 0, 1) := by decide +kernel
theorem dX10_meet_56 : decode cX10_meet 56 = .ok (.getfield 54, 3) := by decide +kernel
theorem dX10_meet_59 : decode cX10_meet 59 = .ok (.iload_n 1, 1) := by decide +kernel
theorem dX10_meet_60 : decode cX10_meet 60 = .ok (.aload_n 0, 1) := by decide +kernel
theorem dX10_meet_61 : decode cX10_meet 61 = .ok (.getfield 19, 3) := by decide +kernel
theorem dX10_meet_64 : decode cX10_meet 64 = .ok (.getfield 142, 3) := by decide +kernel
theorem dX10_meet_67 : decode cX10_meet 67 = .ok (.iload_n 1, 1) := by decide +kernel
theorem dX10_meet_68 : decode cX10_meet 68 = .ok (.iaload, 1) := by decide +kernel
theorem dX10_meet_69 : decode cX10_meet 69 = .ok (.invokevirtual 218, 3) := by decide +kernel
theorem dX10_meet_72 : decode cX10_meet 72 = .ok (.aload_n 0, 1) := by decide +kernel
theorem dX10_meet_73 : decode cX10_meet 73 = .ok (.aload_n 0, 1) := by decide +kernel
theorem dX10_meet_74 : decode cX10_meet 74 = .ok (.getfield 58, 3) := by decide +kernel
theorem dX10_meet_77 : decode cX10_meet 77 = .ok (.iload_n 2, 1) := by decide +kernel
theorem dX10_meet_78 : decode cX10_meet 78 = .ok (.aload_n 0, 1) := by decide +kernel
theorem dX10_meet_79 : decode cX10_meet 79 = .ok (.getfield 19, 3) := by decide +kernel
theorem dX10_meet_82 : decode cX10_meet 82 = .ok (.getfield 142, 3) := by decide +kernel
theorem dX10_meet_85 : decode cX10_meet 85 = .ok (.iload_n 2, 1) := by decide +kernel
theorem dX10_meet_86 : decode cX10_meet 86 = .ok (.iaload, 1) := by decide +kernel
theorem dX10_meet_87 : decode cX10_meet 87 = .ok (.invokevirtual 218, 3) := by decide +kernel
theorem dX10_meet_90 : decode cX10_meet 90 = .ok (.aload_n 0, 1) := by decide +kernel
theorem dX10_meet_91 : decode cX10_meet 91 = .ok (.getfield 61, 3) := by decide +kernel
theorem dX10_meet_94 : decode cX10_meet 94 = .ok (.aload_n 0, 1) := by decide +kernel
theorem dX10_meet_95 : decode cX10_meet 95 = .ok (.getfield 54, 3) := by decide +kernel
theorem dX10_meet_98 : decode cX10_meet 98 = .ok (.aload_n 0, 1) := by decide +kernel
theorem dX10_meet_99 : decode cX10_meet 99 = .ok (.getfield 58, 3) := by decide +kernel
theorem dX10_meet_102 : decode cX10_meet 102 = .ok (.aload_n 0, 1) := by decide +kernel
theorem dX10_meet_103 : decode cX10_meet 103 = .ok (.getfield 19, 3) := by decide +kernel
theorem dX10_meet_106 : decode cX10_meet 106 = .ok (.getfield 234, 3) := by decide +kernel
theorem dX10_meet_109 : decode cX10_meet 109 = .ok (.invokevirtual 237, 3) := by decide +kernel
theorem dX10_meet_112 : decode cX10_meet 112 = .ok (.aload_n 0, 1) := by decide +kernel
theorem dX10_meet_113 : decode cX10_meet 113 = .ok (.getfield 61, 3) := by decide +kernel
theorem dX10_meet_116 : decode cX10_meet 116 = .ok (.aload_n 0, 1) := by decide +kernel
theorem dX10_meet_117 : decode cX10_meet 117 = .ok (.getfield 19, 3) := by decide +kernel
theorem dX10_meet_120 : decode cX10_meet 120 = .ok (.aload_n 0, 1) := by decide +kernel
theorem dX10_meet_121 : decode cX10_meet 121 = .ok (.getfield 19, 3) := by decide +kernel
theorem dX10_meet_124 : decode cX10_meet 124 = .ok (.getfield 139, 3) := by decide +kernel
theorem dX10_meet_127 : decode cX10_meet 127 = .ok (.iload_n 1, 1) := by decide +kernel
theorem dX10_meet_128 : decode cX10_meet 128 = .ok (.iaload, 1) := by decide +kernel
theorem dX10_meet_129 : decode cX10_meet 129 = .ok (.aload_n 0, 1) := by decide +kernel
theorem dX10_meet_130 : decode cX10_meet 130 = .ok (.getfield 19, 3) := by decide +kernel
theorem dX10_meet_133 : decode cX10_meet 133 = .ok (.getfield 142, 3) := by decide +kernel
theorem dX10_meet_136 : decode cX10_meet 136 = .ok (.iload_n 1, 1) := by decide +kernel
theorem dX10_meet_137 : decode cX10_meet 137 = .ok (.iaload, 1) := by decide +kernel
theorem dX10_meet_138 : decode cX10_meet 138 = .ok (.invokevirtual 241, 3) := by decide +kernel
theorem dX10_meet_141 : decode cX10_meet 141 = .ok (.iload 4, 2) := by decide +kernel
theorem dX10_meet_143 : decode cX10_meet 143 = .ok (.ifCond .ne 14, 3) := by decide +kernel
theorem dX10_meet_146 : decode cX10_meet 146 = .ok (.aload_n 0, 1) := by decide +kernel
theorem dX10_meet_147 : decode cX10_meet 147 = .ok (.getfield 61, 3) := by decide +kernel
theorem dX10_meet_150 : decode cX10_meet 150 = .ok (.iload_n 3, 1) := by decide +kernel
theorem dX10_meet_151 : decode cX10_meet 151 = .ok (.invokevirtual 225, 3) := by decide +kernel
theorem dX10_meet_154 : decode cX10_meet 154 = .ok (.goto 11, 3) := by decide +kernel
theorem dX10_meet_157 : decode cX10_meet 157 = .ok (.aload_n 0, 1) := by decide +kernel
theorem dX10_meet_158 : decode cX10_meet 158 = .ok (.getfield 61, 3) := by decide +kernel
theorem dX10_meet_161 : decode cX10_meet 161 = .ok (.iload_n 3, 1) := by decide +kernel
theorem dX10_meet_162 : decode cX10_meet 162 = .ok (.invokevirtual 228, 3) := by decide +kernel
theorem dX10_meet_165 : decode cX10_meet 165 = .ok (.ireturn, 1) := by decide +kernel
set_option maxRecDepth 20000 in
theorem ggX10_taker_X10_within : GoodIn wsX10_taker wsX10_within := goodIn_r _ [6] (by decide +kernel) (by decide +kernel)
set_option maxRecDepth 20000 in
theorem gX10_taker_X10_within : GoodIn wsX10_taker (va_wsS RX10 64 yX10_within wsX10_within) := goodIn_app (goodIn_of _ (by decide +kernel)) ggX10_taker_X10_within
set_option maxRecDepth 20000 in
theorem ggX10_taker_X8_append : GoodIn wsX10_taker wsX8_append := goodIn_r _ [11, 12, 13, 23, 24] (by decide +kernel) (by decide +kernel)
set_option maxRecDepth 20000 in
theorem gX10_taker_X8_append : GoodIn wsX10_taker (wsV RX10 245 RX8 yX8_append wsX8_append) := goodIn_app (goodIn_of _ (by decide +kernel)) ggX10_taker_X8_append
theorem dX10_taker_0 : decode cX10_taker 0 = .ok (.iload_n 1, 1) := by decide +kernel
theorem dX10_taker_1 : decode cX10_taker 1 = .ok (.iconst 1, 1) := by decide +kernel
theorem dX10_taker_2 : decode cX10_taker 2 = .ok (.bipush 30, 2) := by decide +kernel
theorem dX10_taker_4 : decode cX10_taker 4 = .ok (.invokestatic 64, 3) := by decide +kernel
theorem dX10_taker_7 : decode cX10_taker 7 = .ok (.ifCond .ne 6, 3) := by decide +kernel
theorem dX10_taker_10 : decode cX10_taker 10 = .ok (.bipush (-3), 2) := by decide +kernel
theorem dX10_taker_12 : decode cX10_taker 12 = .ok (.ireturn, 1) := by decide +kernel
theorem dX10_taker_13 : decode cX10_taker 13 = .ok (.aload_n 0, 1) := by decide +kernel
theorem dX10_taker_14 : decode cX10_taker 14 = .ok (.getfield 33, 3) := by decide +kernel
theorem dX10_taker_17 : decode cX10_taker 17 = .ok (.iload_n 1, 1) := by decide +kernel
theorem dX10_taker_18 : decode cX10_taker 18 = .ok (.invokevirtual 245, 3) := by decide +kernel
theorem dX10_taker_21 : decode cX10_taker 21 = .ok (.ifCond .eq 13, 3) := by decide +kernel
theorem dX10_taker_24 : decode cX10_taker 24 = .ok (.aload_n 0, 1) := by decide +kernel
theorem dX10_taker_25 : decode cX10_taker 25 = .ok (.getfield 33, 3) := by decide +kernel
theorem dX10_taker_28 : decode cX10_taker 28 = .ok (.getfield 90, 3) := by decide +kernel
theorem dX10_taker_31 : decode cX10_taker 31 = .ok (.goto 5, 3) := by decide +kernel
theorem dX10_taker_34 : decode cX10_taker 34 = .ok (.bipush (-5), 2) := by decide +kernel
theorem dX10_taker_36 : decode cX10_taker 36 = .ok (.ireturn, 1) := by decide +kernel
theorem dX10_dismiss_0 : decode cX10_dismiss 0 = .ok (.aload_n 0, 1) := by decide +kernel
theorem dX10_dismiss_1 : decode cX10_dismiss 1 = .ok (.getfield 33, 3) := by decide +kernel
theorem dX10_dismiss_4 : decode cX10_dismiss 4 = .ok (.getfield 90, 3) := by decide +kernel
theorem dX10_dismiss_7 : decode cX10_dismiss 7 = .ok (.istore_n 1, 1) := by decide +kernel
theorem dX10_dismiss_8 : decode cX10_dismiss 8 = .ok (.aload_n 0, 1) := by decide +kernel
theorem dX10_dismiss_9 : decode cX10_dismiss 9 = .ok (.getfield 33, 3) := by decide +kernel
theorem dX10_dismiss_12 : decode cX10_dismiss 12 = .ok (.iconst 0, 1) := by decide +kernel
theorem dX10_dismiss_13 : decode cX10_dismiss 13 = .ok (.putfield 90, 3) := by decide +kernel
theorem dX10_dismiss_16 : decode cX10_dismiss 16 = .ok (.iload_n 1, 1) := by decide +kernel
theorem dX10_dismiss_17 : decode cX10_dismiss 17 = .ok (.ireturn, 1) := by decide +kernel
set_option maxRecDepth 20000 in
theorem ggX10_left_X10_within : GoodIn wsX10_left wsX10_within := goodIn_r _ [5] (by decide +kernel) (by decide +kernel)
set_option maxRecDepth 20000 in
theorem gX10_left_X10_within : GoodIn wsX10_left (va_wsS RX10 64 yX10_within wsX10_within) := goodIn_app (goodIn_of _ (by decide +kernel)) ggX10_left_X10_within
set_option maxRecDepth 20000 in
theorem ggX10_left_X8_setsLeaving : GoodIn wsX10_left wsX8_setsLeaving := goodIn_r _ [10, 11, 12, 13, 14, 9, 15, 16, 17, 18, 19, 20, 21, 22, 23, 37, 38] (by decide +kernel) (by decide +kernel)
set_option maxRecDepth 20000 in
theorem gX10_left_X8_setsLeaving : GoodIn wsX10_left (wsV RX10 246 RX8 yX8_setsLeaving wsX8_setsLeaving) := goodIn_app (goodIn_of _ (by decide +kernel)) ggX10_left_X8_setsLeaving
set_option maxRecDepth 20000 in
theorem ggX10_left_X8_leastLeaving : GoodIn wsX10_left wsX8_leastLeaving := goodIn_r _ [27, 11, 12, 13, 14, 9, 15, 16, 17, 18, 19, 20, 21, 22, 23, 37, 38] (by decide +kernel) (by decide +kernel)
set_option maxRecDepth 20000 in
theorem gX10_left_X8_leastLeaving : GoodIn wsX10_left (wsV RX10 249 RX8 yX8_leastLeaving wsX8_leastLeaving) := goodIn_app (goodIn_of _ (by decide +kernel)) ggX10_left_X8_leastLeaving
theorem dX10_left_0 : decode cX10_left 0 = .ok (.iload_n 1, 1) := by decide +kernel
theorem dX10_left_1 : decode cX10_left 1 = .ok (.iconst 0, 1) := by decide +kernel
theorem dX10_left_2 : decode cX10_left 2 = .ok (.sipush 999, 3) := by decide +kernel
theorem dX10_left_5 : decode cX10_left 5 = .ok (.invokestatic 64, 3) := by decide +kernel
theorem dX10_left_8 : decode cX10_left 8 = .ok (.ifCond .eq 23, 3) := by decide +kernel
theorem dX10_left_11 : decode cX10_left 11 = .ok (.iload_n 2, 1) := by decide +kernel
theorem dX10_left_12 : decode cX10_left 12 = .ok (.iconst 0, 1) := by decide +kernel
theorem dX10_left_13 : decode cX10_left 13 = .ok (.sipush 999, 3) := by decide +kernel
theorem dX10_left_16 : decode cX10_left 16 = .ok (.invokestatic 64, 3) := by decide +kernel
theorem dX10_left_19 : decode cX10_left 19 = .ok (.ifCond .eq 12, 3) := by decide +kernel
theorem dX10_left_22 : decode cX10_left 22 = .ok (.iload_n 3, 1) := by decide +kernel
theorem dX10_left_23 : decode cX10_left 23 = .ok (.iconst 0, 1) := by decide +kernel
theorem dX10_left_24 : decode cX10_left 24 = .ok (.iconst 1, 1) := by decide +kernel
theorem dX10_left_25 : decode cX10_left 25 = .ok (.invokestatic 64, 3) := by decide +kernel
theorem dX10_left_28 : decode cX10_left 28 = .ok (.ifCond .ne 6, 3) := by decide +kernel
theorem dX10_left_31 : decode cX10_left 31 = .ok (.bipush (-3), 2) := by decide +kernel
theorem dX10_left_33 : decode cX10_left 33 = .ok (.ireturn, 1) := by decide +kernel
theorem dX10_left_34 : decode cX10_left 34 = .ok (.iload_n 3, 1) := by decide +kernel
theorem dX10_left_35 : decode cX10_left 35 = .ok (.ifCond .ne 15, 3) := by decide +kernel
theorem dX10_left_38 : decode cX10_left 38 = .ok (.aload_n 0, 1) := by decide +kernel
theorem dX10_left_39 : decode cX10_left 39 = .ok (.getfield 33, 3) := by decide +kernel
theorem dX10_left_42 : decode cX10_left 42 = .ok (.iload_n 1, 1) := by decide +kernel
theorem dX10_left_43 : decode cX10_left 43 = .ok (.iload_n 2, 1) := by decide +kernel
theorem dX10_left_44 : decode cX10_left 44 = .ok (.invokevirtual 246, 3) := by decide +kernel
theorem dX10_left_47 : decode cX10_left 47 = .ok (.goto 12, 3) := by decide +kernel
theorem dX10_left_50 : decode cX10_left 50 = .ok (.aload_n 0, 1) := by decide +kernel
theorem dX10_left_51 : decode cX10_left 51 = .ok (.getfield 33, 3) := by decide +kernel
theorem dX10_left_54 : decode cX10_left 54 = .ok (.iload_n 1, 1) := by decide +kernel
theorem dX10_left_55 : decode cX10_left 55 = .ok (.iload_n 2, 1) := by decide +kernel
theorem dX10_left_56 : decode cX10_left 56 = .ok (.invokevirtual 249, 3) := by decide +kernel
theorem dX10_left_59 : decode cX10_left 59 = .ok (.ireturn, 1) := by decide +kernel
set_option maxRecDepth 20000 in
theorem ggX10_drip_X1_hasCart : GoodIn wsX10_drip wsX1_hasCart := goodIn_r _ [10, 11, 92, 93, 94, 95, 96, 97, 98, 99, 100, 101, 102, 103] (by decide +kernel) (by decide +kernel)
set_option maxRecDepth 20000 in
theorem gX10_drip_X1_hasCart : GoodIn wsX10_drip (wsV RX10 136 RX1 yX1_hasCart wsX1_hasCart) := goodIn_app (goodIn_of _ (by decide +kernel)) ggX10_drip_X1_hasCart
set_option maxRecDepth 20000 in
theorem ggX10_drip_X1_hasPlace : GoodIn wsX10_drip wsX1_hasPlace := goodIn_r _ [15, 16, 92, 93, 94, 95, 96, 97, 98, 99, 100, 101, 102, 103] (by decide +kernel) (by decide +kernel)
set_option maxRecDepth 20000 in
theorem gX10_drip_X1_hasPlace : GoodIn wsX10_drip (wsV RX10 94 RX1 yX1_hasPlace wsX1_hasPlace) := goodIn_app (goodIn_of _ (by decide +kernel)) ggX10_drip_X1_hasPlace
set_option maxRecDepth 20000 in
theorem ggX10_drip_X10_within : GoodIn wsX10_drip wsX10_within := goodIn_r _ [20] (by decide +kernel) (by decide +kernel)
set_option maxRecDepth 20000 in
theorem gX10_drip_X10_within : GoodIn wsX10_drip (va_wsS RX10 64 yX10_within wsX10_within) := goodIn_app (goodIn_of _ (by decide +kernel)) ggX10_drip_X10_within
set_option maxRecDepth 20000 in
theorem ggX10_drip_X1_links : GoodIn wsX10_drip wsX1_links := goodIn_r _ [24, 25, 26, 27, 9, 28, 29, 30, 31, 32, 33, 34, 92, 93, 94, 95, 96, 97, 98, 99, 100, 101, 102, 103] (by decide +kernel) (by decide +kernel)
set_option maxRecDepth 20000 in
theorem gX10_drip_X1_links : GoodIn wsX10_drip (wsV RX10 255 RX1 yX1_links wsX1_links) := goodIn_app (goodIn_of _ (by decide +kernel)) ggX10_drip_X1_links
set_option maxRecDepth 20000 in
theorem ggX10_drip_X10_comesInTime : GoodIn wsX10_drip wsX10_comesInTime := goodIn_r _ [38, 2, 3, 39, 1, 40, 72, 73, 74, 75, 76, 77, 78, 79, 80, 81, 82, 83, 84, 85, 86, 87, 88, 89, 90, 91, 92, 93, 94, 95, 96, 97, 98, 99, 100, 101, 102, 103] (by decide +kernel) (by decide +kernel)
set_option maxRecDepth 20000 in
theorem gX10_drip_X10_comesInTime : GoodIn wsX10_drip (wsV RX10 182 RX10 yX10_comesInTime wsX10_comesInTime) := goodIn_app (goodIn_of _ (by decide +kernel)) ggX10_drip_X10_comesInTime
set_option maxRecDepth 20000 in
theorem ggX10_drip_X10_afterGoing : GoodIn wsX10_drip wsX10_afterGoing := goodIn_r _ [44, 2, 3, 1, 45, 39, 46, 47, 48, 49, 50, 9, 51, 52, 53, 54, 55, 56, 57, 58, 59, 60, 61, 62, 63, 64, 65, 66, 67, 68, 69, 70, 71, 72, 73, 74, 75, 76, 77, 78, 79, 80, 81, 82, 83, 84, 85, 86, 87, 88, 89, 90, 91, 92, 93, 94, 95, 96, 97, 98, 99, 100, 101, 102, 103] (by decide +kernel) (by decide +kernel)
set_option maxRecDepth 20000 in
theorem gX10_drip_X10_afterGoing : GoodIn wsX10_drip (wsV RX10 185 RX10 yX10_afterGoing wsX10_afterGoing) := goodIn_app (goodIn_of _ (by decide +kernel)) ggX10_drip_X10_afterGoing
theorem dX10_drip_0 : decode cX10_drip 0 = .ok (.aload_n 0, 1) := by decide +kernel
theorem dX10_drip_1 : decode cX10_drip 1 = .ok (.getfield 19, 3) := by decide +kernel
theorem dX10_drip_4 : decode cX10_drip 4 = .ok (.iload_n 1, 1) := by decide +kernel
theorem dX10_drip_5 : decode cX10_drip 5 = .ok (.invokevirtual 136, 3) := by decide +kernel
theorem dX10_drip_8 : decode cX10_drip 8 = .ok (.ifCond .eq 30, 3) := by decide +kernel
theorem dX10_drip_11 : decode cX10_drip 11 = .ok (.aload_n 0, 1) := by decide +kernel
theorem dX10_drip_12 : decode cX10_drip 12 = .ok (.getfield 19, 3) := by decide +kernel
theorem dX10_drip_15 : decode cX10_drip 15 = .ok (.iload_n 2, 1) := by decide +kernel
theorem dX10_drip_16 : decode cX10_drip 16 = .ok (.invokevirtual 94, 3) := by decide +kernel
theorem dX10_drip_19 : decode cX10_drip 19 = .ok (.ifCond .eq 19, 3) := by decide +kernel
theorem dX10_drip_22 : decode cX10_drip 22 = .ok (.aload_n 0, 1) := by decide +kernel
theorem dX10_drip_23 : decode cX10_drip 23 = .ok (.getfield 26, 3) := by decide +kernel
theorem dX10_drip_26 : decode cX10_drip 26 = .ok (.getfield 101, 3) := by decide +kernel
theorem dX10_drip_29 : decode cX10_drip 29 = .ok (.getfield 145, 3) := by decide +kernel
theorem dX10_drip_32 : decode cX10_drip 32 = .ok (.iload_n 1, 1) := by decide +kernel
theorem dX10_drip_33 : decode cX10_drip 33 = .ok (.iaload, 1) := by decide +kernel
theorem dX10_drip_34 : decode cX10_drip 34 = .ok (.iload_n 2, 1) := by decide +kernel
theorem dX10_drip_35 : decode cX10_drip 35 = .ok (.if_icmp .ne 6, 3) := by decide +kernel
theorem dX10_drip_38 : decode cX10_drip 38 = .ok (.bipush (-2), 2) := by decide +kernel
theorem dX10_drip_40 : decode cX10_drip 40 = .ok (.ireturn, 1) := by decide +kernel
theorem dX10_drip_41 : decode cX10_drip 41 = .ok (.iload_n 3, 1) := by decide +kernel
theorem dX10_drip_42 : decode cX10_drip 42 = .ok (.iconst 0, 1) := by decide +kernel
theorem dX10_drip_43 : decode cX10_drip 43 = .ok (.bipush 99, 2) := by decide +kernel
theorem dX10_drip_45 : decode cX10_drip 45 = .ok (.invokestatic 64, 3) := by decide +kernel
theorem dX10_drip_48 : decode cX10_drip 48 = .ok (.ifCond .ne 6, 3) := by decide +kernel
theorem dX10_drip_51 : decode cX10_drip 51 = .ok (.bipush (-3), 2) := by decide +kernel
theorem dX10_drip_53 : decode cX10_drip 53 = .ok (.ireturn, 1) := by decide +kernel
theorem dX10_drip_54 : decode cX10_drip 54 = .ok (.aload_n 0, 1) := by decide +kernel
theorem dX10_drip_55 : decode cX10_drip 55 = .ok (.getfield 26, 3) := by decide +kernel
theorem dX10_drip_58 : decode cX10_drip 58 = .ok (.getfield 101, 3) := by decide +kernel
theorem dX10_drip_61 : decode cX10_drip 61 = .ok (.getfield 145, 3) := by decide +kernel
theorem dX10_drip_64 : decode cX10_drip 64 = .ok (.iload_n 1, 1) := by decide +kernel
theorem dX10_drip_65 : decode cX10_drip 65 = .ok (.iaload, 1) := by decide +kernel
theorem dX10_drip_66 : decode cX10_drip 66 = .ok (.istore 4, 2) := by decide +kernel
theorem dX10_drip_68 : decode cX10_drip 68 = .ok (.iconst 0, 1) := by decide +kernel
theorem dX10_drip_69 : decode cX10_drip 69 = .ok (.istore 5, 2) := by decide +kernel
theorem dX10_drip_71 : decode cX10_drip 71 = .ok (.iconst 0, 1) := by decide +kernel
theorem dX10_drip_72 : decode cX10_drip 72 = .ok (.istore 6, 2) := by decide +kernel
theorem dX10_drip_74 : decode cX10_drip 74 = .ok (.iload 6, 2) := by decide +kernel
theorem dX10_drip_76 : decode cX10_drip 76 = .ok (.aload_n 0, 1) := by decide +kernel
theorem dX10_drip_77 : decode cX10_drip 77 = .ok (.getfield 19, 3) := by decide +kernel
theorem dX10_drip_80 : decode cX10_drip 80 = .ok (.getfield 252, 3) := by decide +kernel
theorem dX10_drip_83 : decode cX10_drip 83 = .ok (.if_icmp .ge 54, 3) := by decide +kernel
theorem dX10_drip_86 : decode cX10_drip 86 = .ok (.aload_n 0, 1) := by decide +kernel
theorem dX10_drip_87 : decode cX10_drip 87 = .ok (.getfield 19, 3) := by decide +kernel
theorem dX10_drip_90 : decode cX10_drip 90 = .ok (.iload 6, 2) := by decide +kernel
theorem dX10_drip_92 : decode cX10_drip 92 = .ok (.iload 4, 2) := by decide +kernel
theorem dX10_drip_94 : decode cX10_drip 94 = .ok (.iload_n 2, 1) := by decide +kernel
theorem dX10_drip_95 : decode cX10_drip 95 = .ok (.invokevirtual 255, 3) := by decide +kernel
theorem dX10_drip_98 : decode cX10_drip 98 = .ok (.ifCond .eq 33, 3) := by decide +kernel
theorem dX10_drip_101 : decode cX10_drip 101 = .ok (.aload_n 0, 1) := by decide +kernel
theorem dX10_drip_102 : decode cX10_drip 102 = .ok (.iload_n 1, 1) := by decide +kernel
theorem dX10_drip_103 : decode cX10_drip 103 = .ok (.iload 6, 2) := by decide +kernel
theorem dX10_drip_105 : decode cX10_drip 105 = .ok (.invokevirtual 182, 3) := by decide +kernel
theorem dX10_drip_108 : decode cX10_drip 108 = .ok (.ifCond .eq 23, 3) := by decide +kernel
theorem dX10_drip_111 : decode cX10_drip 111 = .ok (.aload_n 0, 1) := by decide +kernel
theorem dX10_drip_112 : decode cX10_drip 112 = .ok (.iload_n 1, 1) := by decide +kernel
theorem dX10_drip_113 : decode cX10_drip 113 = .ok (.iload 6, 2) := by decide +kernel
theorem dX10_drip_115 : decode cX10_drip 115 = .ok (.invokevirtual 185, 3) := by decide +kernel
theorem dX10_drip_118 : decode cX10_drip 118 = .ok (.iload_n 3, 1) := by decide +kernel
theorem dX10_drip_119 : decode cX10_drip 119 = .ok (.if_icmp .ne 12, 3) := by decide +kernel
theorem dX10_drip_122 : decode cX10_drip 122 = .ok (.iload 5, 2) := by decide +kernel
theorem dX10_drip_124 : decode cX10_drip 124 = .ok (.iconst 1, 1) := by decide +kernel
theorem dX10_drip_125 : decode cX10_drip 125 = .ok (.iload 6, 2) := by decide +kernel
theorem dX10_drip_127 : decode cX10_drip 127 = .ok (.ishl, 1) := by decide +kernel
theorem dX10_drip_128 : decode cX10_drip 128 = .ok (.ior, 1) := by decide +kernel
theorem dX10_drip_129 : decode cX10_drip 129 = .ok (.istore 5, 2) := by decide +kernel
theorem dX10_drip_131 : decode cX10_drip 131 = .ok (.iinc 6 1, 3) := by decide +kernel
theorem dX10_drip_134 : decode cX10_drip 134 = .ok (.goto (-60), 3) := by decide +kernel
theorem dX10_drip_137 : decode cX10_drip 137 = .ok (.iload 5, 2) := by decide +kernel
theorem dX10_drip_139 : decode cX10_drip 139 = .ok (.ireturn, 1) := by decide +kernel
set_option maxRecDepth 20000 in
theorem ggX10_seal_X10_within : GoodIn wsX10_seal wsX10_within := goodIn_r _ [5] (by decide +kernel) (by decide +kernel)
set_option maxRecDepth 20000 in
theorem gX10_seal_X10_within : GoodIn wsX10_seal (va_wsS RX10 64 yX10_within wsX10_within) := goodIn_app (goodIn_of _ (by decide +kernel)) ggX10_seal_X10_within
set_option maxRecDepth 20000 in
theorem ggX10_seal_X2_sealedWorth : GoodIn wsX10_seal wsX2_sealedWorth := goodIn_r _ [8, 9, 10, 11, 12, 13, 14, 7, 15, 16, 17, 18, 19, 20, 21, 22, 23, 24, 6] (by decide +kernel) (by decide +kernel)
set_option maxRecDepth 20000 in
theorem gX10_seal_X2_sealedWorth_n260 : GoodIn wsX10_seal (wsX2_sealedWorth) := ggX10_seal_X2_sealedWorth
set_option maxRecDepth 20000 in
theorem ggX10_seal_X2_inLowestTerms : GoodIn wsX10_seal wsX2_inLowestTerms := goodIn_r _ [27, 28, 29, 13, 14, 7, 15, 16] (by decide +kernel) (by decide +kernel)
set_option maxRecDepth 20000 in
theorem gX10_seal_X2_inLowestTerms : GoodIn wsX10_seal (va_wsS RX10 264 yX2_inLowestTerms wsX2_inLowestTerms) := goodIn_app (goodIn_of _ (by decide +kernel)) ggX10_seal_X2_inLowestTerms
theorem dX10_seal_0 : decode cX10_seal 0 = .ok (.iload_n 1, 1) := by decide +kernel
theorem dX10_seal_1 : decode cX10_seal 1 = .ok (.iconst 0, 1) := by decide +kernel
theorem dX10_seal_2 : decode cX10_seal 2 = .ok (.bipush 99, 2) := by decide +kernel
theorem dX10_seal_4 : decode cX10_seal 4 = .ok (.invokestatic 64, 3) := by decide +kernel
theorem dX10_seal_7 : decode cX10_seal 7 = .ok (.ifCond .eq 33, 3) := by decide +kernel
theorem dX10_seal_10 : decode cX10_seal 10 = .ok (.iload_n 2, 1) := by decide +kernel
theorem dX10_seal_11 : decode cX10_seal 11 = .ok (.iconst 1, 1) := by decide +kernel
theorem dX10_seal_12 : decode cX10_seal 12 = .ok (.bipush 6, 2) := by decide +kernel
theorem dX10_seal_14 : decode cX10_seal 14 = .ok (.invokestatic 64, 3) := by decide +kernel
theorem dX10_seal_17 : decode cX10_seal 17 = .ok (.ifCond .eq 23, 3) := by decide +kernel
theorem dX10_seal_20 : decode cX10_seal 20 = .ok (.iload_n 3, 1) := by decide +kernel
theorem dX10_seal_21 : decode cX10_seal 21 = .ok (.iconst 0, 1) := by decide +kernel
theorem dX10_seal_22 : decode cX10_seal 22 = .ok (.bipush 10, 2) := by decide +kernel
theorem dX10_seal_24 : decode cX10_seal 24 = .ok (.invokestatic 64, 3) := by decide +kernel
theorem dX10_seal_27 : decode cX10_seal 27 = .ok (.ifCond .eq 13, 3) := by decide +kernel
theorem dX10_seal_30 : decode cX10_seal 30 = .ok (.iload 4, 2) := by decide +kernel
theorem dX10_seal_32 : decode cX10_seal 32 = .ok (.iconst 0, 1) := by decide +kernel
theorem dX10_seal_33 : decode cX10_seal 33 = .ok (.iconst 1, 1) := by decide +kernel
theorem dX10_seal_34 : decode cX10_seal 34 = .ok (.invokestatic 64, 3) := by decide +kernel
theorem dX10_seal_37 : decode cX10_seal 37 = .ok (.ifCond .ne 7, 3) := by decide +kernel
theorem dX10_seal_40 : decode cX10_seal 40 = .ok (.ldc2_w 258, 3) := by decide +kernel
theorem dX10_seal_43 : decode cX10_seal 43 = .ok (.lreturn, 1) := by decide +kernel
theorem dX10_seal_44 : decode cX10_seal 44 = .ok (.iload_n 1, 1) := by decide +kernel
theorem dX10_seal_45 : decode cX10_seal 45 = .ok (.iload_n 2, 1) := by decide +kernel
theorem dX10_seal_46 : decode cX10_seal 46 = .ok (.iload_n 3, 1) := by decide +kernel
theorem dX10_seal_47 : decode cX10_seal 47 = .ok (.invokestatic 260, 3) := by decide +kernel
theorem dX10_seal_50 : decode cX10_seal 50 = .ok (.iload_n 2, 1) := by decide +kernel
theorem dX10_seal_51 : decode cX10_seal 51 = .ok (.iload 4, 2) := by decide +kernel
theorem dX10_seal_53 : decode cX10_seal 53 = .ok (.invokestatic 264, 3) := by decide +kernel
theorem dX10_seal_56 : decode cX10_seal 56 = .ok (.lreturn, 1) := by decide +kernel
set_option maxRecDepth 20000 in
theorem ggX10_rent_X1_hasCart : GoodIn wsX10_rent wsX1_hasCart := goodIn_r _ [6, 7, 81, 82, 83, 84, 85, 86, 87, 88, 89, 90, 91, 92] (by decide +kernel) (by decide +kernel)
set_option maxRecDepth 20000 in
theorem gX10_rent_X1_hasCart : GoodIn wsX10_rent (wsV RX10 136 RX1 yX1_hasCart wsX1_hasCart) := goodIn_app (goodIn_of _ (by decide +kernel)) ggX10_rent_X1_hasCart
set_option maxRecDepth 20000 in
theorem ggX10_rent_X1_hasRoad : GoodIn wsX10_rent wsX1_hasRoad := goodIn_r _ [11, 12, 81, 82, 83, 84, 85, 86, 87, 88, 89, 90, 91, 92] (by decide +kernel) (by decide +kernel)
set_option maxRecDepth 20000 in
theorem gX10_rent_X1_hasRoad : GoodIn wsX10_rent (wsV RX10 121 RX1 yX1_hasRoad wsX1_hasRoad) := goodIn_app (goodIn_of _ (by decide +kernel)) ggX10_rent_X1_hasRoad
set_option maxRecDepth 20000 in
theorem ggX10_rent_X10_mayGo : GoodIn wsX10_rent wsX10_mayGo := goodIn_r _ [17, 1, 18, 19, 20, 21, 22, 23, 5, 24, 25, 26, 27, 28, 29, 16, 30, 31, 32, 72, 73, 74, 75, 76, 77, 78, 79, 80, 93, 94, 95, 96, 97, 98, 99, 100, 101, 102, 103, 81, 82, 83, 84, 85, 86, 87, 88, 89, 90, 91, 92] (by decide +kernel) (by decide +kernel)
set_option maxRecDepth 20000 in
theorem gX10_rent_X10_mayGo : GoodIn wsX10_rent (wsV RX10 268 RX10 yX10_mayGo wsX10_mayGo) := goodIn_app (goodIn_of _ (by decide +kernel)) ggX10_rent_X10_mayGo
set_option maxRecDepth 20000 in
theorem ggX10_rent_X10_worthBy : GoodIn wsX10_rent wsX10_worthBy := goodIn_r _ [36, 18, 19, 31, 1, 32, 37, 38, 39, 16, 40, 41, 42, 43, 44, 45, 46, 5, 47, 48, 49, 50, 51, 52, 53, 54, 55, 56, 57, 58, 59, 60, 61, 62, 63, 64, 65, 66, 67, 68, 69, 70, 71, 72, 73, 74, 75, 76, 77, 78, 79, 80, 93, 94, 95, 96, 97, 98, 99, 100, 101, 102, 103, 81, 82, 83, 84, 85, 86, 87, 88, 89, 90, 91, 92] (by decide +kernel) (by decide +kernel)
set_option maxRecDepth 20000 in
theorem gX10_rent_X10_worthBy : GoodIn wsX10_rent (wsV RX10 271 RX10 yX10_worthBy wsX10_worthBy) := goodIn_app (goodIn_of _ (by decide +kernel)) ggX10_rent_X10_worthBy
theorem dX10_rent_0 : decode cX10_rent 0 = .ok (.aload_n 0, 1) := by decide +kernel
theorem dX10_rent_1 : decode cX10_rent 1 = .ok (.getfield 19, 3) := by decide +kernel
theorem dX10_rent_4 : decode cX10_rent 4 = .ok (.iload_n 1, 1) := by decide +kernel
theorem dX10_rent_5 : decode cX10_rent 5 = .ok (.invokevirtual 136, 3) := by decide +kernel
theorem dX10_rent_8 : decode cX10_rent 8 = .ok (.ifCond .eq 30, 3) := by decide +kernel
theorem dX10_rent_11 : decode cX10_rent 11 = .ok (.aload_n 0, 1) := by decide +kernel
theorem dX10_rent_12 : decode cX10_rent 12 = .ok (.getfield 19, 3) := by decide +kernel
theorem dX10_rent_15 : decode cX10_rent 15 = .ok (.iload_n 2, 1) := by decide +kernel
theorem dX10_rent_16 : decode cX10_rent 16 = .ok (.invokevirtual 121, 3) := by decide +kernel
theorem dX10_rent_19 : decode cX10_rent 19 = .ok (.ifCond .eq 19, 3) := by decide +kernel
theorem dX10_rent_22 : decode cX10_rent 22 = .ok (.aload_n 0, 1) := by decide +kernel
theorem dX10_rent_23 : decode cX10_rent 23 = .ok (.getfield 19, 3) := by decide +kernel
theorem dX10_rent_26 : decode cX10_rent 26 = .ok (.iload_n 3, 1) := by decide +kernel
theorem dX10_rent_27 : decode cX10_rent 27 = .ok (.invokevirtual 121, 3) := by decide +kernel
theorem dX10_rent_30 : decode cX10_rent 30 = .ok (.ifCond .eq 8, 3) := by decide +kernel
theorem dX10_rent_33 : decode cX10_rent 33 = .ok (.iload_n 2, 1) := by decide +kernel
theorem dX10_rent_34 : decode cX10_rent 34 = .ok (.iload_n 3, 1) := by decide +kernel
theorem dX10_rent_35 : decode cX10_rent 35 = .ok (.if_icmp .ne 6, 3) := by decide +kernel
theorem dX10_rent_38 : decode cX10_rent 38 = .ok (.bipush (-2), 2) := by decide +kernel
theorem dX10_rent_40 : decode cX10_rent 40 = .ok (.ireturn, 1) := by decide +kernel
theorem dX10_rent_41 : decode cX10_rent 41 = .ok (.aload_n 0, 1) := by decide +kernel
theorem dX10_rent_42 : decode cX10_rent 42 = .ok (.iload_n 1, 1) := by decide +kernel
theorem dX10_rent_43 : decode cX10_rent 43 = .ok (.iload_n 2, 1) := by decide +kernel
theorem dX10_rent_44 : decode cX10_rent 44 = .ok (.invokevirtual 268, 3) := by decide +kernel
theorem dX10_rent_47 : decode cX10_rent 47 = .ok (.ifCond .eq 12, 3) := by decide +kernel
theorem dX10_rent_50 : decode cX10_rent 50 = .ok (.aload_n 0, 1) := by decide +kernel
theorem dX10_rent_51 : decode cX10_rent 51 = .ok (.iload_n 1, 1) := by decide +kernel
theorem dX10_rent_52 : decode cX10_rent 52 = .ok (.iload_n 3, 1) := by decide +kernel
theorem dX10_rent_53 : decode cX10_rent 53 = .ok (.invokevirtual 268, 3) := by decide +kernel
theorem dX10_rent_56 : decode cX10_rent 56 = .ok (.ifCond .ne 6, 3) := by decide +kernel
theorem dX10_rent_59 : decode cX10_rent 59 = .ok (.bipush (-4), 2) := by decide +kernel
theorem dX10_rent_61 : decode cX10_rent 61 = .ok (.ireturn, 1) := by decide +kernel
theorem dX10_rent_62 : decode cX10_rent 62 = .ok (.aload_n 0, 1) := by decide +kernel
theorem dX10_rent_63 : decode cX10_rent 63 = .ok (.iload_n 1, 1) := by decide +kernel
theorem dX10_rent_64 : decode cX10_rent 64 = .ok (.iload_n 2, 1) := by decide +kernel
theorem dX10_rent_65 : decode cX10_rent 65 = .ok (.invokevirtual 271, 3) := by decide +kernel
theorem dX10_rent_68 : decode cX10_rent 68 = .ok (.aload_n 0, 1) := by decide +kernel
theorem dX10_rent_69 : decode cX10_rent 69 = .ok (.iload_n 1, 1) := by decide +kernel
theorem dX10_rent_70 : decode cX10_rent 70 = .ok (.iload_n 3, 1) := by decide +kernel
theorem dX10_rent_71 : decode cX10_rent 71 = .ok (.invokevirtual 271, 3) := by decide +kernel
theorem dX10_rent_74 : decode cX10_rent 74 = .ok (.isub, 1) := by decide +kernel
theorem dX10_rent_75 : decode cX10_rent 75 = .ok (.sipush 9999, 3) := by decide +kernel
theorem dX10_rent_78 : decode cX10_rent 78 = .ok (.iadd, 1) := by decide +kernel
theorem dX10_rent_79 : decode cX10_rent 79 = .ok (.ireturn, 1) := by decide +kernel
set_option maxRecDepth 20000 in
theorem ggX10_around_X1_hasPlace : GoodIn wsX10_around wsX1_hasPlace := goodIn_r _ [7, 8, 72, 73, 74, 75, 76, 77, 78, 79, 80, 81, 82, 83] (by decide +kernel) (by decide +kernel)
set_option maxRecDepth 20000 in
theorem gX10_around_X1_hasPlace : GoodIn wsX10_around (wsV RX10 94 RX1 yX1_hasPlace wsX1_hasPlace) := goodIn_app (goodIn_of _ (by decide +kernel)) ggX10_around_X1_hasPlace
set_option maxRecDepth 20000 in
theorem ggX10_around_X10_within : GoodIn wsX10_around wsX10_within := goodIn_r _ [12] (by decide +kernel) (by decide +kernel)
set_option maxRecDepth 20000 in
theorem gX10_around_X10_within : GoodIn wsX10_around (va_wsS RX10 64 yX10_within wsX10_within) := goodIn_app (goodIn_of _ (by decide +kernel)) ggX10_around_X10_within
set_option maxRecDepth 20000 in
theorem ggX10_around_X9_measure : GoodIn wsX10_around wsX9_measure := goodIn_r _ [17, 18, 19, 20, 21, 22, 23, 24, 25, 26, 27, 28, 29, 30, 31, 32, 33, 16, 34, 35, 36, 84, 72, 73, 74, 75, 76, 77, 78, 79, 80, 81, 82, 83] (by decide +kernel) (by decide +kernel)
set_option maxRecDepth 20000 in
theorem gX10_around_X9_measure : GoodIn wsX10_around (wsV RX10 274 RX9 yX9_measure wsX9_measure) := goodIn_app (goodIn_of _ (by decide +kernel)) ggX10_around_X9_measure
set_option maxRecDepth 20000 in
theorem ggX10_around_X9_leadFrom : GoodIn wsX10_around wsX9_leadFrom := goodIn_r _ [40, 18, 19, 84] (by decide +kernel) (by decide +kernel)
set_option maxRecDepth 20000 in
theorem gX10_around_X9_leadFrom : GoodIn wsX10_around (wsV RX10 278 RX9 yX9_leadFrom wsX9_leadFrom) := goodIn_app (goodIn_of _ (by decide +kernel)) ggX10_around_X9_leadFrom
set_option maxRecDepth 20000 in
theorem ggX10_around_X9_firstRoad : GoodIn wsX10_around wsX9_firstRoad := goodIn_r _ [44, 21, 18, 45, 46, 47, 6, 48, 49, 50, 51, 52, 53, 54, 32, 33, 16, 34, 35, 36, 72, 73, 74, 75, 76, 77, 78, 79, 80, 81, 82, 83, 84] (by decide +kernel) (by decide +kernel)
set_option maxRecDepth 20000 in
theorem gX10_around_X9_firstRoad : GoodIn wsX10_around (wsV RX10 281 RX9 yX9_firstRoad wsX9_firstRoad) := goodIn_app (goodIn_of _ (by decide +kernel)) ggX10_around_X9_firstRoad
set_option maxRecDepth 20000 in
theorem ggX10_around_X9_banditsFrom : GoodIn wsX10_around wsX9_banditsFrom := goodIn_r _ [58, 18, 84] (by decide +kernel) (by decide +kernel)
set_option maxRecDepth 20000 in
theorem gX10_around_X9_banditsFrom : GoodIn wsX10_around (wsV RX10 285 RX9 yX9_banditsFrom wsX9_banditsFrom) := goodIn_app (goodIn_of _ (by decide +kernel)) ggX10_around_X9_banditsFrom
set_option maxRecDepth 20000 in
theorem ggX10_around_X9_hoursFrom : GoodIn wsX10_around wsX9_hoursFrom := goodIn_r _ [62, 18, 84] (by decide +kernel) (by decide +kernel)
set_option maxRecDepth 20000 in
theorem gX10_around_X9_hoursFrom : GoodIn wsX10_around (wsV RX10 288 RX9 yX9_hoursFrom wsX9_hoursFrom) := goodIn_app (goodIn_of _ (by decide +kernel)) ggX10_around_X9_hoursFrom
theorem dX10_around_0 : decode cX10_around 0 = .ok (.aload_n 0, 1) := by decide +kernel
theorem dX10_around_1 : decode cX10_around 1 = .ok (.getfield 19, 3) := by decide +kernel
theorem dX10_around_4 : decode cX10_around 4 = .ok (.iload_n 1, 1) := by decide +kernel
theorem dX10_around_5 : decode cX10_around 5 = .ok (.invokevirtual 94, 3) := by decide +kernel
theorem dX10_around_8 : decode cX10_around 8 = .ok (.ifCond .eq 14, 3) := by decide +kernel
theorem dX10_around_11 : decode cX10_around 11 = .ok (.aload_n 0, 1) := by decide +kernel
theorem dX10_around_12 : decode cX10_around 12 = .ok (.getfield 19, 3) := by decide +kernel
theorem dX10_around_15 : decode cX10_around 15 = .ok (.iload_n 2, 1) := by decide +kernel
theorem dX10_around_16 : decode cX10_around 16 = .ok (.invokevirtual 94, 3) := by decide +kernel
theorem dX10_around_19 : decode cX10_around 19 = .ok (.ifCond .ne 6, 3) := by decide +kernel
theorem dX10_around_22 : decode cX10_around 22 = .ok (.bipush (-2), 2) := by decide +kernel
theorem dX10_around_24 : decode cX10_around 24 = .ok (.ireturn, 1) := by decide +kernel
theorem dX10_around_25 : decode cX10_around 25 = .ok (.iload_n 3, 1) := by decide +kernel
theorem dX10_around_26 : decode cX10_around 26 = .ok (.iconst 0, 1) := by decide +kernel
theorem dX10_around_27 : decode cX10_around 27 = .ok (.iconst 2, 1) := by decide +kernel
theorem dX10_around_28 : decode cX10_around 28 = .ok (.invokestatic 64, 3) := by decide +kernel
theorem dX10_around_31 : decode cX10_around 31 = .ok (.ifCond .ne 6, 3) := by decide +kernel
theorem dX10_around_34 : decode cX10_around 34 = .ok (.bipush (-3), 2) := by decide +kernel
theorem dX10_around_36 : decode cX10_around 36 = .ok (.ireturn, 1) := by decide +kernel
theorem dX10_around_37 : decode cX10_around 37 = .ok (.aload_n 0, 1) := by decide +kernel
theorem dX10_around_38 : decode cX10_around 38 = .ok (.getfield 47, 3) := by decide +kernel
theorem dX10_around_41 : decode cX10_around 41 = .ok (.aload_n 0, 1) := by decide +kernel
theorem dX10_around_42 : decode cX10_around 42 = .ok (.getfield 19, 3) := by decide +kernel
theorem dX10_around_45 : decode cX10_around 45 = .ok (.iload_n 2, 1) := by decide +kernel
theorem dX10_around_46 : decode cX10_around 46 = .ok (.invokevirtual 274, 3) := by decide +kernel
theorem dX10_around_49 : decode cX10_around 49 = .ok (.aload_n 0, 1) := by decide +kernel
theorem dX10_around_50 : decode cX10_around 50 = .ok (.getfield 47, 3) := by decide +kernel
theorem dX10_around_53 : decode cX10_around 53 = .ok (.iload_n 1, 1) := by decide +kernel
theorem dX10_around_54 : decode cX10_around 54 = .ok (.invokevirtual 278, 3) := by decide +kernel
theorem dX10_around_57 : decode cX10_around 57 = .ok (.ifCond .ne 5, 3) := by decide +kernel
theorem dX10_around_60 : decode cX10_around 60 = .ok (.iconst (-1), 1) := by decide +kernel
theorem dX10_around_61 : decode cX10_around 61 = .ok (.ireturn, 1) := by decide +kernel
theorem dX10_around_62 : decode cX10_around 62 = .ok (.iload_n 3, 1) := by decide +kernel
theorem dX10_around_63 : decode cX10_around 63 = .ok (.iconst 2, 1) := by decide +kernel
theorem dX10_around_64 : decode cX10_around 64 = .ok (.if_icmp .ne 16, 3) := by decide +kernel
theorem dX10_around_67 : decode cX10_around 67 = .ok (.aload_n 0, 1) := by decide +kernel
theorem dX10_around_68 : decode cX10_around 68 = .ok (.getfield 47, 3) := by decide +kernel
theorem dX10_around_71 : decode cX10_around 71 = .ok (.aload_n 0, 1) := by decide +kernel
theorem dX10_around_72 : decode cX10_around 72 = .ok (.getfield 19, 3) := by decide +kernel
theorem dX10_around_75 : decode cX10_around 75 = .ok (.iload_n 1, 1) := by decide +kernel
theorem dX10_around_76 : decode cX10_around 76 = .ok (.invokevirtual 281, 3) := by decide +kernel
theorem dX10_around_79 : decode cX10_around 79 = .ok (.ireturn, 1) := by decide +kernel
theorem dX10_around_80 : decode cX10_around 80 = .ok (.iload_n 3, 1) := by decide +kernel
theorem dX10_around_81 : decode cX10_around 81 = .ok (.ifCond .ne 14, 3) := by decide +kernel
theorem dX10_around_84 : decode cX10_around 84 = .ok (.aload_n 0, 1) := by decide +kernel
theorem dX10_around_85 : decode cX10_around 85 = .ok (.getfield 47, 3) := by decide +kernel
theorem dX10_around_88 : decode cX10_around 88 = .ok (.iload_n 1, 1) := by decide +kernel
theorem dX10_around_89 : decode cX10_around 89 = .ok (.invokevirtual 285, 3) := by decide +kernel
theorem dX10_around_92 : decode cX10_around 92 = .ok (.goto 11, 3) := by decide +kernel
theorem dX10_around_95 : decode cX10_around 95 = .ok (.aload_n 0, 1) := by decide +kernel
theorem dX10_around_96 : decode cX10_around 96 = .ok (.getfield 47, 3) := by decide +kernel
theorem dX10_around_99 : decode cX10_around 99 = .ok (.iload_n 1, 1) := by decide +kernel
theorem dX10_around_100 : decode cX10_around 100 = .ok (.invokevirtual 288, 3) := by decide +kernel
theorem dX10_around_103 : decode cX10_around 103 = .ok (.ireturn, 1) := by decide +kernel
set_option maxRecDepth 20000 in
theorem ggX10_put_X10_within : GoodIn wsX10_put wsX10_within := goodIn_r _ [6] (by decide +kernel) (by decide +kernel)
set_option maxRecDepth 20000 in
theorem gX10_put_X10_within : GoodIn wsX10_put (va_wsS RX10 64 yX10_within wsX10_within) := goodIn_app (goodIn_of _ (by decide +kernel)) ggX10_put_X10_within
set_option maxRecDepth 20000 in
theorem ggX10_put_X4_append : GoodIn wsX10_put wsX4_append := goodIn_r _ [11, 12, 13, 23, 24, 25, 26] (by decide +kernel) (by decide +kernel)
set_option maxRecDepth 20000 in
theorem gX10_put_X4_append : GoodIn wsX10_put (wsV RX10 291 RX4 yX4_append wsX4_append) := goodIn_app (goodIn_of _ (by decide +kernel)) ggX10_put_X4_append
theorem dX10_put_0 : decode cX10_put 0 = .ok (.iload_n 1, 1) := by decide +kernel
theorem dX10_put_1 : decode cX10_put 1 = .ok (.iconst 1, 1) := by decide +kernel
theorem dX10_put_2 : decode cX10_put 2 = .ok (.bipush 99, 2) := by decide +kernel
theorem dX10_put_4 : decode cX10_put 4 = .ok (.invokestatic 64, 3) := by decide +kernel
theorem dX10_put_7 : decode cX10_put 7 = .ok (.ifCond .ne 6, 3) := by decide +kernel
theorem dX10_put_10 : decode cX10_put 10 = .ok (.bipush (-3), 2) := by decide +kernel
theorem dX10_put_12 : decode cX10_put 12 = .ok (.ireturn, 1) := by decide +kernel
theorem dX10_put_13 : decode cX10_put 13 = .ok (.aload_n 0, 1) := by decide +kernel
theorem dX10_put_14 : decode cX10_put 14 = .ok (.getfield 40, 3) := by decide +kernel
theorem dX10_put_17 : decode cX10_put 17 = .ok (.iload_n 1, 1) := by decide +kernel
theorem dX10_put_18 : decode cX10_put 18 = .ok (.invokevirtual 291, 3) := by decide +kernel
theorem dX10_put_21 : decode cX10_put 21 = .ok (.ifCond .eq 13, 3) := by decide +kernel
theorem dX10_put_24 : decode cX10_put 24 = .ok (.aload_n 0, 1) := by decide +kernel
theorem dX10_put_25 : decode cX10_put 25 = .ok (.getfield 40, 3) := by decide +kernel
theorem dX10_put_28 : decode cX10_put 28 = .ok (.getfield 93, 3) := by decide +kernel
theorem dX10_put_31 : decode cX10_put 31 = .ok (.goto 5, 3) := by decide +kernel
theorem dX10_put_34 : decode cX10_put 34 = .ok (.bipush (-5), 2) := by decide +kernel
theorem dX10_put_36 : decode cX10_put 36 = .ok (.ireturn, 1) := by decide +kernel
theorem dX10_wipe_0 : decode cX10_wipe 0 = .ok (.aload_n 0, 1) := by decide +kernel
theorem dX10_wipe_1 : decode cX10_wipe 1 = .ok (.getfield 40, 3) := by decide +kernel
theorem dX10_wipe_4 : decode cX10_wipe 4 = .ok (.getfield 93, 3) := by decide +kernel
theorem dX10_wipe_7 : decode cX10_wipe 7 = .ok (.istore_n 1, 1) := by decide +kernel
theorem dX10_wipe_8 : decode cX10_wipe 8 = .ok (.aload_n 0, 1) := by decide +kernel
theorem dX10_wipe_9 : decode cX10_wipe 9 = .ok (.getfield 40, 3) := by decide +kernel
theorem dX10_wipe_12 : decode cX10_wipe 12 = .ok (.iconst 0, 1) := by decide +kernel
theorem dX10_wipe_13 : decode cX10_wipe 13 = .ok (.putfield 93, 3) := by decide +kernel
theorem dX10_wipe_16 : decode cX10_wipe 16 = .ok (.iload_n 1, 1) := by decide +kernel
theorem dX10_wipe_17 : decode cX10_wipe 17 = .ok (.ireturn, 1) := by decide +kernel
set_option maxRecDepth 20000 in
theorem ggX10_pass_X10_within : GoodIn wsX10_pass wsX10_within := goodIn_r _ [8] (by decide +kernel) (by decide +kernel)
set_option maxRecDepth 20000 in
theorem gX10_pass_X10_within : GoodIn wsX10_pass (va_wsS RX10 64 yX10_within wsX10_within) := goodIn_app (goodIn_of _ (by decide +kernel)) ggX10_pass_X10_within
set_option maxRecDepth 20000 in
theorem ggX10_pass_X4_weigh : GoodIn wsX10_pass wsX4_weigh := goodIn_r _ [13, 14, 15, 16, 17, 18, 19, 20, 21, 22, 23, 24, 25, 26, 27, 28, 29, 30, 31, 32, 33, 34, 35, 36, 37, 38, 39, 40, 41, 12, 42, 43, 44, 45, 46, 47, 48, 49, 71, 72, 73, 74] (by decide +kernel) (by decide +kernel)
set_option maxRecDepth 20000 in
theorem gX10_pass_X4_weigh : GoodIn wsX10_pass (wsV RX10 296 RX4 yX4_weigh wsX4_weigh) := goodIn_app (goodIn_of _ (by decide +kernel)) ggX10_pass_X4_weigh
set_option maxRecDepth 20000 in
theorem ggX10_pass_X4_mostThrough : GoodIn wsX10_pass wsX4_mostThrough := goodIn_r _ [53, 17, 71, 72, 73, 74] (by decide +kernel) (by decide +kernel)
set_option maxRecDepth 20000 in
theorem gX10_pass_X4_mostThrough : GoodIn wsX10_pass (wsV RX10 300 RX4 yX4_mostThrough wsX4_mostThrough) := goodIn_app (goodIn_of _ (by decide +kernel)) ggX10_pass_X4_mostThrough
set_option maxRecDepth 20000 in
theorem ggX10_pass_X4_loadInTurn : GoodIn wsX10_pass wsX4_loadInTurn := goodIn_r _ [57, 14, 58, 59, 60, 12, 61, 17, 39, 40, 41, 42, 15, 43, 44, 45, 46, 47, 48, 49, 71, 72, 73, 74] (by decide +kernel) (by decide +kernel)
set_option maxRecDepth 20000 in
theorem gX10_pass_X4_loadInTurn : GoodIn wsX10_pass (wsV RX10 304 RX4 yX4_loadInTurn wsX4_loadInTurn) := goodIn_app (goodIn_of _ (by decide +kernel)) ggX10_pass_X4_loadInTurn
theorem dX10_pass_0 : decode cX10_pass 0 = .ok (.iload_n 1, 1) := by decide +kernel
theorem dX10_pass_1 : decode cX10_pass 1 = .ok (.iconst 0, 1) := by decide +kernel
theorem dX10_pass_2 : decode cX10_pass 2 = .ok (.bipush 43, 2) := by decide +kernel
theorem dX10_pass_4 : decode cX10_pass 4 = .ok (.invokestatic 64, 3) := by decide +kernel
theorem dX10_pass_7 : decode cX10_pass 7 = .ok (.ifCond .eq 8, 3) := by decide +kernel
theorem dX10_pass_10 : decode cX10_pass 10 = .ok (.iload_n 2, 1) := by decide +kernel
theorem dX10_pass_11 : decode cX10_pass 11 = .ok (.iconst (-1), 1) := by decide +kernel
theorem dX10_pass_12 : decode cX10_pass 12 = .ok (.if_icmp .ge 6, 3) := by decide +kernel
theorem dX10_pass_15 : decode cX10_pass 15 = .ok (.bipush (-3), 2) := by decide +kernel
theorem dX10_pass_17 : decode cX10_pass 17 = .ok (.ireturn, 1) := by decide +kernel
theorem dX10_pass_18 : decode cX10_pass 18 = .ok (.iload_n 2, 1) := by decide +kernel
theorem dX10_pass_19 : decode cX10_pass 19 = .ok (.aload_n 0, 1) := by decide +kernel
theorem dX10_pass_20 : decode cX10_pass 20 = .ok (.getfield 40, 3) := by decide +kernel
theorem dX10_pass_23 : decode cX10_pass 23 = .ok (.getfield 93, 3) := by decide +kernel
theorem dX10_pass_26 : decode cX10_pass 26 = .ok (.if_icmp .lt 5, 3) := by decide +kernel
theorem dX10_pass_29 : decode cX10_pass 29 = .ok (.iconst (-1), 1) := by decide +kernel
theorem dX10_pass_30 : decode cX10_pass 30 = .ok (.ireturn, 1) := by decide +kernel
theorem dX10_pass_31 : decode cX10_pass 31 = .ok (.aload_n 0, 1) := by decide +kernel
theorem dX10_pass_32 : decode cX10_pass 32 = .ok (.getfield 40, 3) := by decide +kernel
theorem dX10_pass_35 : decode cX10_pass 35 = .ok (.aload_n 0, 1) := by decide +kernel
theorem dX10_pass_36 : decode cX10_pass 36 = .ok (.getfield 19, 3) := by decide +kernel
theorem dX10_pass_39 : decode cX10_pass 39 = .ok (.getfield 292, 3) := by decide +kernel
theorem dX10_pass_42 : decode cX10_pass 42 = .ok (.iload_n 1, 1) := by decide +kernel
theorem dX10_pass_43 : decode cX10_pass 43 = .ok (.invokevirtual 296, 3) := by decide +kernel
theorem dX10_pass_46 : decode cX10_pass 46 = .ok (.iload_n 2, 1) := by decide +kernel
theorem dX10_pass_47 : decode cX10_pass 47 = .ok (.iconst (-1), 1) := by decide +kernel
theorem dX10_pass_48 : decode cX10_pass 48 = .ok (.if_icmp .ne 13, 3) := by decide +kernel
theorem dX10_pass_51 : decode cX10_pass 51 = .ok (.aload_n 0, 1) := by decide +kernel
theorem dX10_pass_52 : decode cX10_pass 52 = .ok (.getfield 40, 3) := by decide +kernel
theorem dX10_pass_55 : decode cX10_pass 55 = .ok (.invokevirtual 300, 3) := by decide +kernel
theorem dX10_pass_58 : decode cX10_pass 58 = .ok (.goto 11, 3) := by decide +kernel
theorem dX10_pass_61 : decode cX10_pass 61 = .ok (.aload_n 0, 1) := by decide +kernel
theorem dX10_pass_62 : decode cX10_pass 62 = .ok (.getfield 40, 3) := by decide +kernel
theorem dX10_pass_65 : decode cX10_pass 65 = .ok (.iload_n 2, 1) := by decide +kernel
theorem dX10_pass_66 : decode cX10_pass 66 = .ok (.invokevirtual 304, 3) := by decide +kernel
theorem dX10_pass_69 : decode cX10_pass 69 = .ok (.ireturn, 1) := by decide +kernel
set_option maxRecDepth 20000 in
theorem ggX10_winds_X10_within : GoodIn wsX10_winds wsX10_within := goodIn_r _ [4] (by decide +kernel) (by decide +kernel)
set_option maxRecDepth 20000 in
theorem gX10_winds_X10_within : GoodIn wsX10_winds (va_wsS RX10 64 yX10_within wsX10_within) := goodIn_app (goodIn_of _ (by decide +kernel)) ggX10_winds_X10_within
set_option maxRecDepth 20000 in
theorem ggX10_winds_X3_warmByDraw : GoodIn wsX10_winds wsX3_warmByDraw := goodIn_r _ [8, 9, 10, 11, 12] (by decide +kernel) (by decide +kernel)
set_option maxRecDepth 20000 in
theorem gX10_winds_X3_warmByDraw : GoodIn wsX10_winds (va_wsS RX10 307 yX3_warmByDraw wsX3_warmByDraw) := goodIn_app (goodIn_of _ (by decide +kernel)) ggX10_winds_X3_warmByDraw
set_option maxRecDepth 20000 in
theorem ggX10_winds_J13_bitCount_95d88 : GoodIn wsX10_winds wsJ13_bitCount_95d88 := goodIn_r _ [16, 17, 18, 19] (by decide +kernel) (by decide +kernel)
set_option maxRecDepth 20000 in
theorem gX10_winds_J13_bitCount_95d88 : GoodIn wsX10_winds (va_wsS RX10 311 yJ13_bitCount_95d88 wsJ13_bitCount_95d88) := goodIn_app (goodIn_of _ (by decide +kernel)) ggX10_winds_J13_bitCount_95d88
set_option maxRecDepth 20000 in
theorem ggX10_winds_X3_afterOpen : GoodIn wsX10_winds wsX3_afterOpen := goodIn_r _ [22, 23, 24, 7, 25, 26, 27, 28, 29, 30, 31, 32, 33, 34, 35, 36, 37, 38] (by decide +kernel) (by decide +kernel)
set_option maxRecDepth 20000 in
theorem gX10_winds_X3_afterOpen : GoodIn wsX10_winds (va_wsS RX10 317 yX3_afterOpen wsX3_afterOpen) := goodIn_app (goodIn_of _ (by decide +kernel)) ggX10_winds_X3_afterOpen
theorem dX10_winds_0 : decode cX10_winds 0 = .ok (.iload_n 1, 1) := by decide +kernel
theorem dX10_winds_1 : decode cX10_winds 1 = .ok (.iconst 0, 1) := by decide +kernel
theorem dX10_winds_2 : decode cX10_winds 2 = .ok (.sipush 9999, 3) := by decide +kernel
theorem dX10_winds_5 : decode cX10_winds 5 = .ok (.invokestatic 64, 3) := by decide +kernel
theorem dX10_winds_8 : decode cX10_winds 8 = .ok (.ifCond .eq 33, 3) := by decide +kernel
theorem dX10_winds_11 : decode cX10_winds 11 = .ok (.iload_n 2, 1) := by decide +kernel
theorem dX10_winds_12 : decode cX10_winds 12 = .ok (.iconst 0, 1) := by decide +kernel
theorem dX10_winds_13 : decode cX10_winds 13 = .ok (.bipush 24, 2) := by decide +kernel
theorem dX10_winds_15 : decode cX10_winds 15 = .ok (.invokestatic 64, 3) := by decide +kernel
theorem dX10_winds_18 : decode cX10_winds 18 = .ok (.ifCond .eq 23, 3) := by decide +kernel
theorem dX10_winds_21 : decode cX10_winds 21 = .ok (.iload_n 3, 1) := by decide +kernel
theorem dX10_winds_22 : decode cX10_winds 22 = .ok (.iconst 0, 1) := by decide +kernel
theorem dX10_winds_23 : decode cX10_winds 23 = .ok (.bipush 99, 2) := by decide +kernel
theorem dX10_winds_25 : decode cX10_winds 25 = .ok (.invokestatic 64, 3) := by decide +kernel
theorem dX10_winds_28 : decode cX10_winds 28 = .ok (.ifCond .eq 13, 3) := by decide +kernel
theorem dX10_winds_31 : decode cX10_winds 31 = .ok (.iload 4, 2) := by decide +kernel
theorem dX10_winds_33 : decode cX10_winds 33 = .ok (.iconst 0, 1) := by decide +kernel
theorem dX10_winds_34 : decode cX10_winds 34 = .ok (.iconst 1, 1) := by decide +kernel
theorem dX10_winds_35 : decode cX10_winds 35 = .ok (.invokestatic 64, 3) := by decide +kernel
theorem dX10_winds_38 : decode cX10_winds 38 = .ok (.ifCond .ne 6, 3) := by decide +kernel
theorem dX10_winds_41 : decode cX10_winds 41 = .ok (.bipush (-3), 2) := by decide +kernel
theorem dX10_winds_43 : decode cX10_winds 43 = .ok (.ireturn, 1) := by decide +kernel
theorem dX10_winds_44 : decode cX10_winds 44 = .ok (.iload_n 1, 1) := by decide +kernel
theorem dX10_winds_45 : decode cX10_winds 45 = .ok (.iload_n 2, 1) := by decide +kernel
theorem dX10_winds_46 : decode cX10_winds 46 = .ok (.invokestatic 307, 3) := by decide +kernel
theorem dX10_winds_49 : decode cX10_winds 49 = .ok (.lstore 5, 2) := by decide +kernel
theorem dX10_winds_51 : decode cX10_winds 51 = .ok (.iload 4, 2) := by decide +kernel
theorem dX10_winds_53 : decode cX10_winds 53 = .ok (.ifCond .ne 11, 3) := by decide +kernel
theorem dX10_winds_56 : decode cX10_winds 56 = .ok (.lload 5, 2) := by decide +kernel
theorem dX10_winds_58 : decode cX10_winds 58 = .ok (.invokestatic 311, 3) := by decide +kernel
theorem dX10_winds_61 : decode cX10_winds 61 = .ok (.goto 11, 3) := by decide +kernel
theorem dX10_winds_64 : decode cX10_winds 64 = .ok (.lload 5, 2) := by decide +kernel
theorem dX10_winds_66 : decode cX10_winds 66 = .ok (.iconst 0, 1) := by decide +kernel
theorem dX10_winds_67 : decode cX10_winds 67 = .ok (.iload_n 2, 1) := by decide +kernel
theorem dX10_winds_68 : decode cX10_winds 68 = .ok (.iload_n 3, 1) := by decide +kernel
theorem dX10_winds_69 : decode cX10_winds 69 = .ok (.invokestatic 317, 3) := by decide +kernel
theorem dX10_winds_72 : decode cX10_winds 72 = .ok (.ireturn, 1) := by decide +kernel
set_option maxRecDepth 20000 in
theorem ggX10_count_J13_bitCount_95d88 : GoodIn wsX10_count wsJ13_bitCount_95d88 := goodIn_r _ [19, 20, 21, 22] (by decide +kernel) (by decide +kernel)
set_option maxRecDepth 20000 in
theorem gX10_count_J13_bitCount_95d88 : GoodIn wsX10_count (va_wsS RX10 311 yJ13_bitCount_95d88 wsJ13_bitCount_95d88) := goodIn_app (goodIn_of _ (by decide +kernel)) ggX10_count_J13_bitCount_95d88
set_option maxRecDepth 20000 in
theorem ggX10_count_X7_allSnow : GoodIn wsX10_count wsX7_allSnow := goodIn_r _ [27, 28, 61, 62, 63, 64, 65] (by decide +kernel) (by decide +kernel)
set_option maxRecDepth 20000 in
theorem gX10_count_X7_allSnow : GoodIn wsX10_count (wsV RX10 321 RX7 yX7_allSnow wsX7_allSnow) := goodIn_app (goodIn_of _ (by decide +kernel)) ggX10_count_X7_allSnow
set_option maxRecDepth 20000 in
theorem ggX10_count_X7_allStock : GoodIn wsX10_count wsX7_allStock := goodIn_r _ [32, 33, 61, 62, 63, 64, 65] (by decide +kernel) (by decide +kernel)
set_option maxRecDepth 20000 in
theorem gX10_count_X7_allStock : GoodIn wsX10_count (wsV RX10 324 RX7 yX7_allStock wsX7_allStock) := goodIn_app (goodIn_of _ (by decide +kernel)) ggX10_count_X7_allStock
theorem dX10_count_0 : decode cX10_count 0 = .ok (.iload_n 1, 1) := by decide +kernel
theorem dX10_count_1 : decode cX10_count 1 = .ok (.tableswitch 159 0 10 #[59, 67, 75, 83, 94, 105, 116, 127, 135, 143, 151], 59) := by decide +kernel
theorem dX10_count_60 : decode cX10_count 60 = .ok (.aload_n 0, 1) := by decide +kernel
theorem dX10_count_61 : decode cX10_count 61 = .ok (.getfield 19, 3) := by decide +kernel
theorem dX10_count_64 : decode cX10_count 64 = .ok (.getfield 234, 3) := by decide +kernel
theorem dX10_count_67 : decode cX10_count 67 = .ok (.ireturn, 1) := by decide +kernel
theorem dX10_count_68 : decode cX10_count 68 = .ok (.aload_n 0, 1) := by decide +kernel
theorem dX10_count_69 : decode cX10_count 69 = .ok (.getfield 19, 3) := by decide +kernel
theorem dX10_count_72 : decode cX10_count 72 = .ok (.getfield 252, 3) := by decide +kernel
theorem dX10_count_75 : decode cX10_count 75 = .ok (.ireturn, 1) := by decide +kernel
theorem dX10_count_76 : decode cX10_count 76 = .ok (.aload_n 0, 1) := by decide +kernel
theorem dX10_count_77 : decode cX10_count 77 = .ok (.getfield 19, 3) := by decide +kernel
theorem dX10_count_80 : decode cX10_count 80 = .ok (.getfield 114, 3) := by decide +kernel
theorem dX10_count_83 : decode cX10_count 83 = .ok (.ireturn, 1) := by decide +kernel
theorem dX10_count_84 : decode cX10_count 84 = .ok (.aload_n 0, 1) := by decide +kernel
theorem dX10_count_85 : decode cX10_count 85 = .ok (.getfield 19, 3) := by decide +kernel
theorem dX10_count_88 : decode cX10_count 88 = .ok (.getfield 292, 3) := by decide +kernel
theorem dX10_count_91 : decode cX10_count 91 = .ok (.invokestatic 311, 3) := by decide +kernel
theorem dX10_count_94 : decode cX10_count 94 = .ok (.ireturn, 1) := by decide +kernel
theorem dX10_count_95 : decode cX10_count 95 = .ok (.aload_n 0, 1) := by decide +kernel
theorem dX10_count_96 : decode cX10_count 96 = .ok (.getfield 26, 3) := by decide +kernel
theorem dX10_count_99 : decode cX10_count 99 = .ok (.getfield 101, 3) := by decide +kernel
theorem dX10_count_102 : decode cX10_count 102 = .ok (.getfield 201, 3) := by decide +kernel
theorem dX10_count_105 : decode cX10_count 105 = .ok (.ireturn, 1) := by decide +kernel
theorem dX10_count_106 : decode cX10_count 106 = .ok (.aload_n 0, 1) := by decide +kernel
theorem dX10_count_107 : decode cX10_count 107 = .ok (.getfield 26, 3) := by decide +kernel
theorem dX10_count_110 : decode cX10_count 110 = .ok (.getfield 101, 3) := by decide +kernel
theorem dX10_count_113 : decode cX10_count 113 = .ok (.invokevirtual 321, 3) := by decide +kernel
theorem dX10_count_116 : decode cX10_count 116 = .ok (.ireturn, 1) := by decide +kernel
theorem dX10_count_117 : decode cX10_count 117 = .ok (.aload_n 0, 1) := by decide +kernel
theorem dX10_count_118 : decode cX10_count 118 = .ok (.getfield 26, 3) := by decide +kernel
theorem dX10_count_121 : decode cX10_count 121 = .ok (.getfield 101, 3) := by decide +kernel
theorem dX10_count_124 : decode cX10_count 124 = .ok (.invokevirtual 324, 3) := by decide +kernel
theorem dX10_count_127 : decode cX10_count 127 = .ok (.ireturn, 1) := by decide +kernel
theorem dX10_count_128 : decode cX10_count 128 = .ok (.aload_n 0, 1) := by decide +kernel
theorem dX10_count_129 : decode cX10_count 129 = .ok (.getfield 33, 3) := by decide +kernel
theorem dX10_count_132 : decode cX10_count 132 = .ok (.getfield 90, 3) := by decide +kernel
theorem dX10_count_135 : decode cX10_count 135 = .ok (.ireturn, 1) := by decide +kernel
theorem dX10_count_136 : decode cX10_count 136 = .ok (.aload_n 0, 1) := by decide +kernel
theorem dX10_count_137 : decode cX10_count 137 = .ok (.getfield 40, 3) := by decide +kernel
theorem dX10_count_140 : decode cX10_count 140 = .ok (.getfield 93, 3) := by decide +kernel
theorem dX10_count_143 : decode cX10_count 143 = .ok (.ireturn, 1) := by decide +kernel
theorem dX10_count_144 : decode cX10_count 144 = .ok (.aload_n 0, 1) := by decide +kernel
theorem dX10_count_145 : decode cX10_count 145 = .ok (.getfield 26, 3) := by decide +kernel
theorem dX10_count_148 : decode cX10_count 148 = .ok (.getfield 208, 3) := by decide +kernel
theorem dX10_count_151 : decode cX10_count 151 = .ok (.ireturn, 1) := by decide +kernel
theorem dX10_count_152 : decode cX10_count 152 = .ok (.aload_n 0, 1) := by decide +kernel
theorem dX10_count_153 : decode cX10_count 153 = .ok (.getfield 10, 3) := by decide +kernel
theorem dX10_count_156 : decode cX10_count 156 = .ok (.getfield 72, 3) := by decide +kernel
theorem dX10_count_159 : decode cX10_count 159 = .ok (.ireturn, 1) := by decide +kernel
theorem dX10_count_160 : decode cX10_count 160 = .ok (.bipush (-3), 2) := by decide +kernel
theorem dX10_count_162 : decode cX10_count 162 = .ok (.ireturn, 1) := by decide +kernel
theorem dX10_within_0 : decode cX10_within 0 = .ok (.iload_n 0, 1) := by decide +kernel
theorem dX10_within_1 : decode cX10_within 1 = .ok (.iload_n 1, 1) := by decide +kernel
theorem dX10_within_2 : decode cX10_within 2 = .ok (.if_icmp .lt 12, 3) := by decide +kernel
theorem dX10_within_5 : decode cX10_within 5 = .ok (.iload_n 0, 1) := by decide +kernel
theorem dX10_within_6 : decode cX10_within 6 = .ok (.iload_n 2, 1) := by decide +kernel
theorem dX10_within_7 : decode cX10_within 7 = .ok (.if_icmp .gt 7, 3) := by decide +kernel
theorem dX10_within_10 : decode cX10_within 10 = .ok (.iconst 1, 1) := by decide +kernel
theorem dX10_within_11 : decode cX10_within 11 = .ok (.goto 4, 3) := by decide +kernel
theorem dX10_within_14 : decode cX10_within 14 = .ok (.iconst 0, 1) := by decide +kernel
theorem dX10_within_15 : decode cX10_within 15 = .ok (.ireturn, 1) := by decide +kernel
theorem dX10_isIn_0 : decode cX10_isIn 0 = .ok (.aload_n 0, 1) := by decide +kernel
theorem dX10_isIn_1 : decode cX10_isIn 1 = .ok (.getfield 19, 3) := by decide +kernel
theorem dX10_isIn_4 : decode cX10_isIn 4 = .ok (.getfield 97, 3) := by decide +kernel
theorem dX10_isIn_7 : decode cX10_isIn 7 = .ok (.aload_n 0, 1) := by decide +kernel
theorem dX10_isIn_8 : decode cX10_isIn 8 = .ok (.getfield 26, 3) := by decide +kernel
theorem dX10_isIn_11 : decode cX10_isIn 11 = .ok (.getfield 101, 3) := by decide +kernel
theorem dX10_isIn_14 : decode cX10_isIn 14 = .ok (.getfield 145, 3) := by decide +kernel
theorem dX10_isIn_17 : decode cX10_isIn 17 = .ok (.iload_n 1, 1) := by decide +kernel
theorem dX10_isIn_18 : decode cX10_isIn 18 = .ok (.iaload, 1) := by decide +kernel
theorem dX10_isIn_19 : decode cX10_isIn 19 = .ok (.iaload, 1) := by decide +kernel
theorem dX10_isIn_20 : decode cX10_isIn 20 = .ok (.iload_n 2, 1) := by decide +kernel
theorem dX10_isIn_21 : decode cX10_isIn 21 = .ok (.if_icmp .ne 7, 3) := by decide +kernel
theorem dX10_isIn_24 : decode cX10_isIn 24 = .ok (.iconst 1, 1) := by decide +kernel
theorem dX10_isIn_25 : decode cX10_isIn 25 = .ok (.goto 4, 3) := by decide +kernel
theorem dX10_isIn_28 : decode cX10_isIn 28 = .ok (.iconst 0, 1) := by decide +kernel
theorem dX10_isIn_29 : decode cX10_isIn 29 = .ok (.ireturn, 1) := by decide +kernel
theorem dX10_comesInTime_0 : decode cX10_comesInTime 0 = .ok (.aload_n 0, 1) := by decide +kernel
theorem dX10_comesInTime_1 : decode cX10_comesInTime 1 = .ok (.getfield 26, 3) := by decide +kernel
theorem dX10_comesInTime_4 : decode cX10_comesInTime 4 = .ok (.getfield 101, 3) := by decide +kernel
theorem dX10_comesInTime_7 : decode cX10_comesInTime 7 = .ok (.getfield 148, 3) := by decide +kernel
theorem dX10_comesInTime_10 : decode cX10_comesInTime 10 = .ok (.iload_n 1, 1) := by decide +kernel
theorem dX10_comesInTime_11 : decode cX10_comesInTime 11 = .ok (.iaload, 1) := by decide +kernel
theorem dX10_comesInTime_12 : decode cX10_comesInTime 12 = .ok (.aload_n 0, 1) := by decide +kernel
theorem dX10_comesInTime_13 : decode cX10_comesInTime 13 = .ok (.getfield 19, 3) := by decide +kernel
theorem dX10_comesInTime_16 : decode cX10_comesInTime 16 = .ok (.getfield 133, 3) := by decide +kernel
theorem dX10_comesInTime_19 : decode cX10_comesInTime 19 = .ok (.iload_n 2, 1) := by decide +kernel
theorem dX10_comesInTime_20 : decode cX10_comesInTime 20 = .ok (.iaload, 1) := by decide +kernel
theorem dX10_comesInTime_21 : decode cX10_comesInTime 21 = .ok (.iadd, 1) := by decide +kernel
theorem dX10_comesInTime_22 : decode cX10_comesInTime 22 = .ok (.bipush 48, 2) := by decide +kernel
theorem dX10_comesInTime_24 : decode cX10_comesInTime 24 = .ok (.if_icmp .gt 7, 3) := by decide +kernel
theorem dX10_comesInTime_27 : decode cX10_comesInTime 27 = .ok (.iconst 1, 1) := by decide +kernel
theorem dX10_comesInTime_28 : decode cX10_comesInTime 28 = .ok (.goto 4, 3) := by decide +kernel
theorem dX10_comesInTime_31 : decode cX10_comesInTime 31 = .ok (.iconst 0, 1) := by decide +kernel
theorem dX10_comesInTime_32 : decode cX10_comesInTime 32 = .ok (.ireturn, 1) := by decide +kernel
set_option maxRecDepth 20000 in
theorem ggX10_mayGo_X1_touches : GoodIn wsX10_mayGo wsX1_touches := goodIn_r _ [9, 10, 11, 39, 40, 41, 42, 43, 44, 45, 46, 47, 48, 49, 50] (by decide +kernel) (by decide +kernel)
set_option maxRecDepth 20000 in
theorem gX10_mayGo_X1_touches : GoodIn wsX10_mayGo (wsV RX10 179 RX1 yX1_touches wsX1_touches) := goodIn_app (goodIn_of _ (by decide +kernel)) ggX10_mayGo_X1_touches
set_option maxRecDepth 20000 in
theorem ggX10_mayGo_X10_comesInTime : GoodIn wsX10_mayGo wsX10_comesInTime := goodIn_r _ [16, 2, 3, 17, 1, 18, 19, 20, 21, 22, 23, 24, 25, 26, 27, 28, 29, 30, 31, 32, 33, 34, 35, 36, 37, 38, 39, 40, 41, 42, 43, 44, 45, 46, 47, 48, 49, 50] (by decide +kernel) (by decide +kernel)
set_option maxRecDepth 20000 in
theorem gX10_mayGo_X10_comesInTime : GoodIn wsX10_mayGo (wsV RX10 182 RX10 yX10_comesInTime wsX10_comesInTime) := goodIn_app (goodIn_of _ (by decide +kernel)) ggX10_mayGo_X10_comesInTime
theorem dX10_mayGo_0 : decode cX10_mayGo 0 = .ok (.aload_n 0, 1) := by decide +kernel
theorem dX10_mayGo_1 : decode cX10_mayGo 1 = .ok (.getfield 19, 3) := by decide +kernel
theorem dX10_mayGo_4 : decode cX10_mayGo 4 = .ok (.iload_n 2, 1) := by decide +kernel
theorem dX10_mayGo_5 : decode cX10_mayGo 5 = .ok (.aload_n 0, 1) := by decide +kernel
theorem dX10_mayGo_6 : decode cX10_mayGo 6 = .ok (.getfield 26, 3) := by decide +kernel
theorem dX10_mayGo_9 : decode cX10_mayGo 9 = .ok (.getfield 101, 3) := by decide +kernel
theorem dX10_mayGo_12 : decode cX10_mayGo 12 = .ok (.getfield 145, 3) := by decide +kernel
theorem dX10_mayGo_15 : decode cX10_mayGo 15 = .ok (.iload_n 1, 1) := by decide +kernel
theorem dX10_mayGo_16 : decode cX10_mayGo 16 = .ok (.iaload, 1) := by decide +kernel
theorem dX10_mayGo_17 : decode cX10_mayGo 17 = .ok (.invokevirtual 179, 3) := by decide +kernel
theorem dX10_mayGo_20 : decode cX10_mayGo 20 = .ok (.ifCond .eq 16, 3) := by decide +kernel
theorem dX10_mayGo_23 : decode cX10_mayGo 23 = .ok (.aload_n 0, 1) := by decide +kernel
theorem dX10_mayGo_24 : decode cX10_mayGo 24 = .ok (.iload_n 1, 1) := by decide +kernel
theorem dX10_mayGo_25 : decode cX10_mayGo 25 = .ok (.iload_n 2, 1) := by decide +kernel
theorem dX10_mayGo_26 : decode cX10_mayGo 26 = .ok (.invokevirtual 182, 3) := by decide +kernel
theorem dX10_mayGo_29 : decode cX10_mayGo 29 = .ok (.ifCond .eq 7, 3) := by decide +kernel
theorem dX10_mayGo_32 : decode cX10_mayGo 32 = .ok (.iconst 1, 1) := by decide +kernel
theorem dX10_mayGo_33 : decode cX10_mayGo 33 = .ok (.goto 4, 3) := by decide +kernel
theorem dX10_mayGo_36 : decode cX10_mayGo 36 = .ok (.iconst 0, 1) := by decide +kernel
theorem dX10_mayGo_37 : decode cX10_mayGo 37 = .ok (.ireturn, 1) := by decide +kernel
set_option maxRecDepth 20000 in
theorem ggX10_afterGoing_X1_afterRoad : GoodIn wsX10_afterGoing wsX1_afterRoad := goodIn_r _ [12, 13, 14, 15, 16, 17, 18, 19, 20, 21, 22, 23, 24, 25, 26, 27, 28, 29, 30, 31, 32, 53, 54, 55, 56, 57, 58, 59, 60, 61, 62, 63, 64] (by decide +kernel) (by decide +kernel)
set_option maxRecDepth 20000 in
theorem gX10_afterGoing_X1_afterRoad : GoodIn wsX10_afterGoing (wsV RX10 164 RX1 yX1_afterRoad wsX1_afterRoad) := goodIn_app (goodIn_of _ (by decide +kernel)) ggX10_afterGoing_X1_afterRoad
theorem dX10_afterGoing_0 : decode cX10_afterGoing 0 = .ok (.aload_n 0, 1) := by decide +kernel
theorem dX10_afterGoing_1 : decode cX10_afterGoing 1 = .ok (.getfield 26, 3) := by decide +kernel
theorem dX10_afterGoing_4 : decode cX10_afterGoing 4 = .ok (.getfield 101, 3) := by decide +kernel
theorem dX10_afterGoing_7 : decode cX10_afterGoing 7 = .ok (.astore_n 3, 1) := by decide +kernel
theorem dX10_afterGoing_8 : decode cX10_afterGoing 8 = .ok (.aload_n 0, 1) := by decide +kernel
theorem dX10_afterGoing_9 : decode cX10_afterGoing 9 = .ok (.getfield 19, 3) := by decide +kernel
theorem dX10_afterGoing_12 : decode cX10_afterGoing 12 = .ok (.iload_n 2, 1) := by decide +kernel
theorem dX10_afterGoing_13 : decode cX10_afterGoing 13 = .ok (.aload_n 3, 1) := by decide +kernel
theorem dX10_afterGoing_14 : decode cX10_afterGoing 14 = .ok (.getfield 151, 3) := by decide +kernel
theorem dX10_afterGoing_17 : decode cX10_afterGoing 17 = .ok (.iload_n 1, 1) := by decide +kernel
theorem dX10_afterGoing_18 : decode cX10_afterGoing 18 = .ok (.iaload, 1) := by decide +kernel
theorem dX10_afterGoing_19 : decode cX10_afterGoing 19 = .ok (.aload_n 3, 1) := by decide +kernel
theorem dX10_afterGoing_20 : decode cX10_afterGoing 20 = .ok (.getfield 148, 3) := by decide +kernel
theorem dX10_afterGoing_23 : decode cX10_afterGoing 23 = .ok (.iload_n 1, 1) := by decide +kernel
theorem dX10_afterGoing_24 : decode cX10_afterGoing 24 = .ok (.iaload, 1) := by decide +kernel
theorem dX10_afterGoing_25 : decode cX10_afterGoing 25 = .ok (.aload_n 0, 1) := by decide +kernel
theorem dX10_afterGoing_26 : decode cX10_afterGoing 26 = .ok (.getfield 19, 3) := by decide +kernel
theorem dX10_afterGoing_29 : decode cX10_afterGoing 29 = .ok (.getfield 139, 3) := by decide +kernel
theorem dX10_afterGoing_32 : decode cX10_afterGoing 32 = .ok (.iload_n 1, 1) := by decide +kernel
theorem dX10_afterGoing_33 : decode cX10_afterGoing 33 = .ok (.iaload, 1) := by decide +kernel
theorem dX10_afterGoing_34 : decode cX10_afterGoing 34 = .ok (.aload_n 0, 1) := by decide +kernel
theorem dX10_afterGoing_35 : decode cX10_afterGoing 35 = .ok (.getfield 19, 3) := by decide +kernel
theorem dX10_afterGoing_38 : decode cX10_afterGoing 38 = .ok (.getfield 142, 3) := by decide +kernel
theorem dX10_afterGoing_41 : decode cX10_afterGoing 41 = .ok (.iload_n 1, 1) := by decide +kernel
theorem dX10_afterGoing_42 : decode cX10_afterGoing 42 = .ok (.iaload, 1) := by decide +kernel
theorem dX10_afterGoing_43 : decode cX10_afterGoing 43 = .ok (.invokevirtual 164, 3) := by decide +kernel
theorem dX10_afterGoing_46 : decode cX10_afterGoing 46 = .ok (.ireturn, 1) := by decide +kernel
set_option maxRecDepth 20000 in
theorem ggX10_afterResting_X1_afterHourIn : GoodIn wsX10_afterResting wsX1_afterHourIn := goodIn_r _ [13, 14, 15, 16, 17, 18, 19, 20, 21, 22, 23, 24, 25, 26, 27, 28, 29, 30, 31, 32, 53, 54, 55, 56, 57, 58, 59, 60, 61, 62, 63, 64] (by decide +kernel) (by decide +kernel)
set_option maxRecDepth 20000 in
theorem gX10_afterResting_X1_afterHourIn : GoodIn wsX10_afterResting (wsV RX10 327 RX1 yX1_afterHourIn wsX1_afterHourIn) := goodIn_app (goodIn_of _ (by decide +kernel)) ggX10_afterResting_X1_afterHourIn
theorem dX10_afterResting_0 : decode cX10_afterResting 0 = .ok (.aload_n 0, 1) := by decide +kernel
theorem dX10_afterResting_1 : decode cX10_afterResting 1 = .ok (.getfield 26, 3) := by decide +kernel
theorem dX10_afterResting_4 : decode cX10_afterResting 4 = .ok (.getfield 101, 3) := by decide +kernel
theorem dX10_afterResting_7 : decode cX10_afterResting 7 = .ok (.astore_n 3, 1) := by decide +kernel
theorem dX10_afterResting_8 : decode cX10_afterResting 8 = .ok (.aload_n 3, 1) := by decide +kernel
theorem dX10_afterResting_9 : decode cX10_afterResting 9 = .ok (.getfield 151, 3) := by decide +kernel
theorem dX10_afterResting_12 : decode cX10_afterResting 12 = .ok (.iload_n 1, 1) := by decide +kernel
theorem dX10_afterResting_13 : decode cX10_afterResting 13 = .ok (.iaload, 1) := by decide +kernel
theorem dX10_afterResting_14 : decode cX10_afterResting 14 = .ok (.istore 4, 2) := by decide +kernel
theorem dX10_afterResting_16 : decode cX10_afterResting 16 = .ok (.iconst 0, 1) := by decide +kernel
theorem dX10_afterResting_17 : decode cX10_afterResting 17 = .ok (.istore 5, 2) := by decide +kernel
theorem dX10_afterResting_19 : decode cX10_afterResting 19 = .ok (.iload 5, 2) := by decide +kernel
theorem dX10_afterResting_21 : decode cX10_afterResting 21 = .ok (.iload_n 2, 1) := by decide +kernel
theorem dX10_afterResting_22 : decode cX10_afterResting 22 = .ok (.if_icmp .ge 53, 3) := by decide +kernel
theorem dX10_afterResting_25 : decode cX10_afterResting 25 = .ok (.aload_n 0, 1) := by decide +kernel
theorem dX10_afterResting_26 : decode cX10_afterResting 26 = .ok (.getfield 19, 3) := by decide +kernel
theorem dX10_afterResting_29 : decode cX10_afterResting 29 = .ok (.aload_n 3, 1) := by decide +kernel
theorem dX10_afterResting_30 : decode cX10_afterResting 30 = .ok (.getfield 145, 3) := by decide +kernel
theorem dX10_afterResting_33 : decode cX10_afterResting 33 = .ok (.iload_n 1, 1) := by decide +kernel
theorem dX10_afterResting_34 : decode cX10_afterResting 34 = .ok (.iaload, 1) := by decide +kernel
theorem dX10_afterResting_35 : decode cX10_afterResting 35 = .ok (.iload 4, 2) := by decide +kernel
theorem dX10_afterResting_37 : decode cX10_afterResting 37 = .ok (.aload_n 3, 1) := by decide +kernel
theorem dX10_afterResting_38 : decode cX10_afterResting 38 = .ok (.getfield 148, 3) := by decide +kernel
theorem dX10_afterResting_41 : decode cX10_afterResting 41 = .ok (.iload_n 1, 1) := by decide +kernel
theorem dX10_afterResting_42 : decode cX10_afterResting 42 = .ok (.iaload, 1) := by decide +kernel
theorem dX10_afterResting_43 : decode cX10_afterResting 43 = .ok (.iload 5, 2) := by decide +kernel
theorem dX10_afterResting_45 : decode cX10_afterResting 45 = .ok (.iadd, 1) := by decide +kernel
theorem dX10_afterResting_46 : decode cX10_afterResting 46 = .ok (.aload_n 0, 1) := by decide +kernel
theorem dX10_afterResting_47 : decode cX10_afterResting 47 = .ok (.getfield 19, 3) := by decide +kernel
theorem dX10_afterResting_50 : decode cX10_afterResting 50 = .ok (.getfield 139, 3) := by decide +kernel
theorem dX10_afterResting_53 : decode cX10_afterResting 53 = .ok (.iload_n 1, 1) := by decide +kernel
theorem dX10_afterResting_54 : decode cX10_afterResting 54 = .ok (.iaload, 1) := by decide +kernel
theorem dX10_afterResting_55 : decode cX10_afterResting 55 = .ok (.aload_n 0, 1) := by decide +kernel
theorem dX10_afterResting_56 : decode cX10_afterResting 56 = .ok (.getfield 19, 3) := by decide +kernel
theorem dX10_afterResting_59 : decode cX10_afterResting 59 = .ok (.getfield 142, 3) := by decide +kernel
theorem dX10_afterResting_62 : decode cX10_afterResting 62 = .ok (.iload_n 1, 1) := by decide +kernel
theorem dX10_afterResting_63 : decode cX10_afterResting 63 = .ok (.iaload, 1) := by decide +kernel
theorem dX10_afterResting_64 : decode cX10_afterResting 64 = .ok (.invokevirtual 327, 3) := by decide +kernel
theorem dX10_afterResting_67 : decode cX10_afterResting 67 = .ok (.istore 4, 2) := by decide +kernel
theorem dX10_afterResting_69 : decode cX10_afterResting 69 = .ok (.iinc 5 1, 3) := by decide +kernel
theorem dX10_afterResting_72 : decode cX10_afterResting 72 = .ok (.goto (-53), 3) := by decide +kernel
theorem dX10_afterResting_75 : decode cX10_afterResting 75 = .ok (.iload 4, 2) := by decide +kernel
theorem dX10_afterResting_77 : decode cX10_afterResting 77 = .ok (.ireturn, 1) := by decide +kernel
set_option maxRecDepth 20000 in
theorem ggX10_worthBy_X10_afterGoing : GoodIn wsX10_worthBy wsX10_afterGoing := goodIn_r _ [10, 1, 2, 4, 11, 3, 12, 13, 14, 15, 16, 17, 18, 19, 20, 21, 22, 23, 24, 25, 26, 27, 28, 29, 30, 31, 32, 33, 34, 35, 36, 37, 38, 43, 44, 45, 46, 47, 48, 49, 50, 51, 52, 53, 54, 55, 56, 57, 58, 59, 60, 61, 62, 63, 64, 65, 66, 67, 68, 69, 70, 71, 72, 73, 74] (by decide +kernel) (by decide +kernel)
set_option maxRecDepth 20000 in
theorem gX10_worthBy_X10_afterGoing : GoodIn wsX10_worthBy (wsV RX10 185 RX10 yX10_afterGoing wsX10_afterGoing) := goodIn_app (goodIn_of _ (by decide +kernel)) ggX10_worthBy_X10_afterGoing
set_option maxRecDepth 20000 in
theorem ggX10_worthBy_X2_priceIn : GoodIn wsX10_worthBy wsX2_priceIn := goodIn_r _ [42] (by decide +kernel) (by decide +kernel)
set_option maxRecDepth 20000 in
theorem gX10_worthBy_X2_priceIn : GoodIn wsX10_worthBy (va_wsS RX10 168 yX2_priceIn wsX2_priceIn) := goodIn_app (goodIn_of _ (by decide +kernel)) ggX10_worthBy_X2_priceIn
theorem dX10_worthBy_0 : decode cX10_worthBy 0 = .ok (.aload_n 0, 1) := by decide +kernel
theorem dX10_worthBy_1 : decode cX10_worthBy 1 = .ok (.getfield 26, 3) := by decide +kernel
theorem dX10_worthBy_4 : decode cX10_worthBy 4 = .ok (.getfield 101, 3) := by decide +kernel
theorem dX10_worthBy_7 : decode cX10_worthBy 7 = .ok (.getfield 148, 3) := by decide +kernel
theorem dX10_worthBy_10 : decode cX10_worthBy 10 = .ok (.iload_n 1, 1) := by decide +kernel
theorem dX10_worthBy_11 : decode cX10_worthBy 11 = .ok (.iaload, 1) := by decide +kernel
theorem dX10_worthBy_12 : decode cX10_worthBy 12 = .ok (.aload_n 0, 1) := by decide +kernel
theorem dX10_worthBy_13 : decode cX10_worthBy 13 = .ok (.getfield 19, 3) := by decide +kernel
theorem dX10_worthBy_16 : decode cX10_worthBy 16 = .ok (.getfield 133, 3) := by decide +kernel
theorem dX10_worthBy_19 : decode cX10_worthBy 19 = .ok (.iload_n 2, 1) := by decide +kernel
theorem dX10_worthBy_20 : decode cX10_worthBy 20 = .ok (.iaload, 1) := by decide +kernel
theorem dX10_worthBy_21 : decode cX10_worthBy 21 = .ok (.iadd, 1) := by decide +kernel
theorem dX10_worthBy_22 : decode cX10_worthBy 22 = .ok (.istore_n 3, 1) := by decide +kernel
theorem dX10_worthBy_23 : decode cX10_worthBy 23 = .ok (.aload_n 0, 1) := by decide +kernel
theorem dX10_worthBy_24 : decode cX10_worthBy 24 = .ok (.iload_n 1, 1) := by decide +kernel
theorem dX10_worthBy_25 : decode cX10_worthBy 25 = .ok (.iload_n 2, 1) := by decide +kernel
theorem dX10_worthBy_26 : decode cX10_worthBy 26 = .ok (.invokevirtual 185, 3) := by decide +kernel
theorem dX10_worthBy_29 : decode cX10_worthBy 29 = .ok (.iload_n 3, 1) := by decide +kernel
theorem dX10_worthBy_30 : decode cX10_worthBy 30 = .ok (.invokestatic 168, 3) := by decide +kernel
theorem dX10_worthBy_33 : decode cX10_worthBy 33 = .ok (.imul, 1) := by decide +kernel
theorem dX10_worthBy_34 : decode cX10_worthBy 34 = .ok (.ireturn, 1) := by decide +kernel
set_option maxRecDepth 20000 in
theorem ggX10_spreadFrom_X5_clear : GoodIn wsX10_spreadFrom wsX5_clear := goodIn_r _ [12, 13, 14, 15, 16, 17, 110] (by decide +kernel) (by decide +kernel)
set_option maxRecDepth 20000 in
theorem gX10_spreadFrom_X5_clear : GoodIn wsX10_spreadFrom (wsV RX10 330 RX5 yX5_clear wsX5_clear) := goodIn_app (goodIn_of _ (by decide +kernel)) ggX10_spreadFrom_X5_clear
set_option maxRecDepth 20000 in
theorem ggX10_spreadFrom_X5_mark : GoodIn wsX10_spreadFrom wsX5_mark := goodIn_r _ [21, 13, 110] (by decide +kernel) (by decide +kernel)
set_option maxRecDepth 20000 in
theorem gX10_spreadFrom_X5_mark : GoodIn wsX10_spreadFrom (wsV RX10 333 RX5 yX5_mark wsX5_mark) := goodIn_app (goodIn_of _ (by decide +kernel)) ggX10_spreadFrom_X5_mark
set_option maxRecDepth 20000 in
theorem ggX10_spreadFrom_X5_spread : GoodIn wsX10_spreadFrom wsX5_spread := goodIn_r _ [25, 26, 13, 27, 28, 29, 11, 30, 31, 32, 33, 34, 35, 36, 37, 38, 39, 40, 41, 42, 43, 44, 45, 46, 47, 48, 49, 50, 51, 52, 53, 54, 55, 56, 57, 58, 59, 60, 61, 19, 20, 21, 62, 63, 64, 65, 66, 67, 68, 69, 70, 71, 72, 73, 74, 75, 76, 77, 98, 99, 100, 101, 102, 103, 104, 105, 106, 107, 108, 109, 110] (by decide +kernel) (by decide +kernel)
set_option maxRecDepth 20000 in
theorem gX10_spreadFrom_X5_spread : GoodIn wsX10_spreadFrom (wsV RX10 241 RX5 yX5_spread wsX5_spread) := goodIn_app (goodIn_of _ (by decide +kernel)) ggX10_spreadFrom_X5_spread
theorem dX10_spreadFrom_0 : decode cX10_spreadFrom 0 = .ok (.aload_n 0, 1) := by decide +kernel
theorem dX10_spreadFrom_1 : decode cX10_spreadFrom 1 = .ok (.getfield 26, 3) := by decide +kernel
theorem dX10_spreadFrom_4 : decode cX10_spreadFrom 4 = .ok (.getfield 101, 3) := by decide +kernel
theorem dX10_spreadFrom_7 : decode cX10_spreadFrom 7 = .ok (.astore 4, 2) := by decide +kernel
theorem dX10_spreadFrom_9 : decode cX10_spreadFrom 9 = .ok (.aload_n 1, 1) := by decide +kernel
theorem dX10_spreadFrom_10 : decode cX10_spreadFrom 10 = .ok (.invokevirtual 330, 3) := by decide +kernel
theorem dX10_spreadFrom_13 : decode cX10_spreadFrom 13 = .ok (.aload_n 1, 1) := by decide +kernel
theorem dX10_spreadFrom_14 : decode cX10_spreadFrom 14 = .ok (.aload 4, 2) := by decide +kernel
theorem dX10_spreadFrom_16 : decode cX10_spreadFrom 16 = .ok (.getfield 145, 3) := by decide +kernel
theorem dX10_spreadFrom_19 : decode cX10_spreadFrom 19 = .ok (.iload_n 2, 1) := by decide +kernel
theorem dX10_spreadFrom_20 : decode cX10_spreadFrom 20 = .ok (.iaload, 1) := by decide +kernel
theorem dX10_spreadFrom_21 : decode cX10_spreadFrom 21 = .ok (.aload 4, 2) := by decide +kernel
theorem dX10_spreadFrom_23 : decode cX10_spreadFrom 23 = .ok (.getfield 148, 3) := by decide +kernel
theorem dX10_spreadFrom_26 : decode cX10_spreadFrom 26 = .ok (.iload_n 2, 1) := by decide +kernel
theorem dX10_spreadFrom_27 : decode cX10_spreadFrom 27 = .ok (.iaload, 1) := by decide +kernel
theorem dX10_spreadFrom_28 : decode cX10_spreadFrom 28 = .ok (.aload 4, 2) := by decide +kernel
theorem dX10_spreadFrom_30 : decode cX10_spreadFrom 30 = .ok (.getfield 151, 3) := by decide +kernel
theorem dX10_spreadFrom_33 : decode cX10_spreadFrom 33 = .ok (.iload_n 2, 1) := by decide +kernel
theorem dX10_spreadFrom_34 : decode cX10_spreadFrom 34 = .ok (.iaload, 1) := by decide +kernel
theorem dX10_spreadFrom_35 : decode cX10_spreadFrom 35 = .ok (.invokevirtual 333, 3) := by decide +kernel
theorem dX10_spreadFrom_38 : decode cX10_spreadFrom 38 = .ok (.aload_n 1, 1) := by decide +kernel
theorem dX10_spreadFrom_39 : decode cX10_spreadFrom 39 = .ok (.aload_n 0, 1) := by decide +kernel
theorem dX10_spreadFrom_40 : decode cX10_spreadFrom 40 = .ok (.getfield 19, 3) := by decide +kernel
theorem dX10_spreadFrom_43 : decode cX10_spreadFrom 43 = .ok (.aload_n 0, 1) := by decide +kernel
theorem dX10_spreadFrom_44 : decode cX10_spreadFrom 44 = .ok (.getfield 19, 3) := by decide +kernel
theorem dX10_spreadFrom_47 : decode cX10_spreadFrom 47 = .ok (.getfield 139, 3) := by decide +kernel
theorem dX10_spreadFrom_50 : decode cX10_spreadFrom 50 = .ok (.iload_n 2, 1) := by decide +kernel
theorem dX10_spreadFrom_51 : decode cX10_spreadFrom 51 = .ok (.iaload, 1) := by decide +kernel
theorem dX10_spreadFrom_52 : decode cX10_spreadFrom 52 = .ok (.iload_n 3, 1) := by decide +kernel
theorem dX10_spreadFrom_53 : decode cX10_spreadFrom 53 = .ok (.invokevirtual 241, 3) := by decide +kernel
theorem dX10_spreadFrom_56 : decode cX10_spreadFrom 56 = .ok (.return_, 1) := by decide +kernel
set_option maxRecDepth 20000 in
theorem ggX11_init_X11_begin : GoodIn wsX11_init wsX11_begin := goodIn_r _ [32, 10, 33, 7, 13, 34, 35, 36, 37, 38, 39, 40, 41, 42, 43, 44, 45, 46, 47, 48, 49, 50, 51, 52, 53, 54, 55, 56, 57, 58, 59, 60, 61, 62, 63, 64, 65, 66, 67, 68, 69, 70, 71, 72, 73, 74, 75] (by decide +kernel) (by decide +kernel)
set_option maxRecDepth 20000 in
theorem gX11_init_X11_begin : GoodIn wsX11_init (wsV RX11 75 RX11 yX11_begin wsX11_begin) := goodIn_app (goodIn_of _ (by decide +kernel)) ggX11_init_X11_begin
theorem dX11_init_0 : decode cX11_init 0 = .ok (.aload_n 0, 1) := by decide +kernel
theorem dX11_init_1 : decode cX11_init 1 = .ok (.invokespecial 1, 3) := by decide +kernel
theorem dX11_init_4 : decode cX11_init 4 = .ok (.aload_n 0, 1) := by decide +kernel
theorem dX11_init_5 : decode cX11_init 5 = .ok (.bipush 7, 2) := by decide +kernel
theorem dX11_init_7 : decode cX11_init 7 = .ok (.newarray .int, 2) := by decide +kernel
theorem dX11_init_9 : decode cX11_init 9 = .ok (.putfield 7, 3) := by decide +kernel
theorem dX11_init_12 : decode cX11_init 12 = .ok (.aload_n 0, 1) := by decide +kernel
theorem dX11_init_13 : decode cX11_init 13 = .ok (.bipush 36, 2) := by decide +kernel
theorem dX11_init_15 : decode cX11_init 15 = .ok (.newarray .int, 2) := by decide +kernel
theorem dX11_init_17 : decode cX11_init 17 = .ok (.putfield 13, 3) := by decide +kernel
theorem dX11_init_20 : decode cX11_init 20 = .ok (.aload_n 0, 1) := by decide +kernel
theorem dX11_init_21 : decode cX11_init 21 = .ok (.bipush 12, 2) := by decide +kernel
theorem dX11_init_23 : decode cX11_init 23 = .ok (.newarray .int, 2) := by decide +kernel
theorem dX11_init_25 : decode cX11_init 25 = .ok (.putfield 16, 3) := by decide +kernel
theorem dX11_init_28 : decode cX11_init 28 = .ok (.aload_n 0, 1) := by decide +kernel
theorem dX11_init_29 : decode cX11_init 29 = .ok (.sipush 160, 3) := by decide +kernel
theorem dX11_init_32 : decode cX11_init 32 = .ok (.newarray .int, 2) := by decide +kernel
theorem dX11_init_34 : decode cX11_init 34 = .ok (.putfield 19, 3) := by decide +kernel
theorem dX11_init_37 : decode cX11_init 37 = .ok (.aload_n 0, 1) := by decide +kernel
theorem dX11_init_38 : decode cX11_init 38 = .ok (.bipush 56, 2) := by decide +kernel
theorem dX11_init_40 : decode cX11_init 40 = .ok (.newarray .int, 2) := by decide +kernel
theorem dX11_init_42 : decode cX11_init 42 = .ok (.putfield 22, 3) := by decide +kernel
theorem dX11_init_45 : decode cX11_init 45 = .ok (.aload_n 0, 1) := by decide +kernel
theorem dX11_init_46 : decode cX11_init 46 = .ok (.bipush 20, 2) := by decide +kernel
theorem dX11_init_48 : decode cX11_init 48 = .ok (.newarray .int, 2) := by decide +kernel
theorem dX11_init_50 : decode cX11_init 50 = .ok (.putfield 25, 3) := by decide +kernel
theorem dX11_init_53 : decode cX11_init 53 = .ok (.aload_n 0, 1) := by decide +kernel
theorem dX11_init_54 : decode cX11_init 54 = .ok (.bipush 40, 2) := by decide +kernel
theorem dX11_init_56 : decode cX11_init 56 = .ok (.newarray .int, 2) := by decide +kernel
theorem dX11_init_58 : decode cX11_init 58 = .ok (.putfield 28, 3) := by decide +kernel
theorem dX11_init_61 : decode cX11_init 61 = .ok (.aload_n 0, 1) := by decide +kernel
theorem dX11_init_62 : decode cX11_init 62 = .ok (.iconst 2, 1) := by decide +kernel
theorem dX11_init_63 : decode cX11_init 63 = .ok (.newarray .boolean, 2) := by decide +kernel
theorem dX11_init_65 : decode cX11_init 65 = .ok (.putfield 31, 3) := by decide +kernel
theorem dX11_init_68 : decode cX11_init 68 = .ok (.aload_n 0, 1) := by decide +kernel
theorem dX11_init_69 : decode cX11_init 69 = .ok (.sipush 160, 3) := by decide +kernel
theorem dX11_init_72 : decode cX11_init 72 = .ok (.newarray .int, 2) := by decide +kernel
theorem dX11_init_74 : decode cX11_init 74 = .ok (.putfield 35, 3) := by decide +kernel
theorem dX11_init_77 : decode cX11_init 77 = .ok (.aload_n 0, 1) := by decide +kernel
theorem dX11_init_78 : decode cX11_init 78 = .ok (.iconst 5, 1) := by decide +kernel
theorem dX11_init_79 : decode cX11_init 79 = .ok (.newarray .int, 2) := by decide +kernel
theorem dX11_init_81 : decode cX11_init 81 = .ok (.putfield 38, 3) := by decide +kernel
theorem dX11_init_84 : decode cX11_init 84 = .ok (.aload_n 0, 1) := by decide +kernel
theorem dX11_init_85 : decode cX11_init 85 = .ok (.iconst 5, 1) := by decide +kernel
theorem dX11_init_86 : decode cX11_init 86 = .ok (.newarray .int, 2) := by decide +kernel
theorem dX11_init_88 : decode cX11_init 88 = .ok (.putfield 41, 3) := by decide +kernel
theorem dX11_init_91 : decode cX11_init 91 = .ok (.aload_n 0, 1) := by decide +kernel
theorem dX11_init_92 : decode cX11_init 92 = .ok (.sipush 343, 3) := by decide +kernel
theorem dX11_init_95 : decode cX11_init 95 = .ok (.newarray .long, 2) := by decide +kernel
theorem dX11_init_97 : decode cX11_init 97 = .ok (.putfield 44, 3) := by decide +kernel
theorem dX11_init_100 : decode cX11_init 100 = .ok (.aload_n 0, 1) := by decide +kernel
theorem dX11_init_101 : decode cX11_init 101 = .ok (.sipush 343, 3) := by decide +kernel
theorem dX11_init_104 : decode cX11_init 104 = .ok (.newarray .long, 2) := by decide +kernel
theorem dX11_init_106 : decode cX11_init 106 = .ok (.putfield 48, 3) := by decide +kernel
theorem dX11_init_109 : decode cX11_init 109 = .ok (.aload_n 0, 1) := by decide +kernel
theorem dX11_init_110 : decode cX11_init 110 = .ok (.sipush 343, 3) := by decide +kernel
theorem dX11_init_113 : decode cX11_init 113 = .ok (.newarray .long, 2) := by decide +kernel
theorem dX11_init_115 : decode cX11_init 115 = .ok (.putfield 51, 3) := by decide +kernel
theorem dX11_init_118 : decode cX11_init 118 = .ok (.aload_n 0, 1) := by decide +kernel
theorem dX11_init_119 : decode cX11_init 119 = .ok (.sipush 343, 3) := by decide +kernel
theorem dX11_init_122 : decode cX11_init 122 = .ok (.newarray .long, 2) := by decide +kernel
theorem dX11_init_124 : decode cX11_init 124 = .ok (.putfield 54, 3) := by decide +kernel
theorem dX11_init_127 : decode cX11_init 127 = .ok (.aload_n 0, 1) := by decide +kernel
theorem dX11_init_128 : decode cX11_init 128 = .ok (.sipush 343, 3) := by decide +kernel
theorem dX11_init_131 : decode cX11_init 131 = .ok (.newarray .long, 2) := by decide +kernel
theorem dX11_init_133 : decode cX11_init 133 = .ok (.putfield 57, 3) := by decide +kernel
theorem dX11_init_136 : decode cX11_init 136 = .ok (.aload_n 0, 1) := by decide +kernel
theorem dX11_init_137 : decode cX11_init 137 = .ok (.sipush 343, 3) := by decide +kernel
theorem dX11_init_140 : decode cX11_init 140 = .ok (.newarray .long, 2) := by decide +kernel
theorem dX11_init_142 : decode cX11_init 142 = .ok (.putfield 60, 3) := by decide +kernel
theorem dX11_init_145 : decode cX11_init 145 = .ok (.aload_n 0, 1) := by decide +kernel
theorem dX11_init_146 : decode cX11_init 146 = .ok (.bipush 7, 2) := by decide +kernel
theorem dX11_init_148 : decode cX11_init 148 = .ok (.newarray .int, 2) := by decide +kernel
theorem dX11_init_150 : decode cX11_init 150 = .ok (.putfield 63, 3) := by decide +kernel
theorem dX11_init_153 : decode cX11_init 153 = .ok (.aload_n 0, 1) := by decide +kernel
theorem dX11_init_154 : decode cX11_init 154 = .ok (.iconst 5, 1) := by decide +kernel
theorem dX11_init_155 : decode cX11_init 155 = .ok (.newarray .int, 2) := by decide +kernel
theorem dX11_init_157 : decode cX11_init 157 = .ok (.putfield 66, 3) := by decide +kernel
theorem dX11_init_160 : decode cX11_init 160 = .ok (.aload_n 0, 1) := by decide +kernel
theorem dX11_init_161 : decode cX11_init 161 = .ok (.iconst 5, 1) := by decide +kernel
theorem dX11_init_162 : decode cX11_init 162 = .ok (.newarray .int, 2) := by decide +kernel
theorem dX11_init_164 : decode cX11_init 164 = .ok (.putfield 69, 3) := by decide +kernel
theorem dX11_init_167 : decode cX11_init 167 = .ok (.aload_n 0, 1) := by decide +kernel
theorem dX11_init_168 : decode cX11_init 168 = .ok (.bipush 100, 2) := by decide +kernel
theorem dX11_init_170 : decode cX11_init 170 = .ok (.newarray .long, 2) := by decide +kernel
theorem dX11_init_172 : decode cX11_init 172 = .ok (.putfield 72, 3) := by decide +kernel
theorem dX11_init_175 : decode cX11_init 175 = .ok (.aload_n 0, 1) := by decide +kernel
theorem dX11_init_176 : decode cX11_init 176 = .ok (.invokevirtual 75, 3) := by decide +kernel
theorem dX11_init_179 : decode cX11_init 179 = .ok (.return_, 1) := by decide +kernel
theorem dX11_in_0 : decode cX11_in 0 = .ok (.iload_n 0, 1) := by decide +kernel
theorem dX11_in_1 : decode cX11_in 1 = .ok (.iload_n 1, 1) := by decide +kernel
theorem dX11_in_2 : decode cX11_in 2 = .ok (.if_icmp .lt 12, 3) := by decide +kernel
theorem dX11_in_5 : decode cX11_in 5 = .ok (.iload_n 0, 1) := by decide +kernel
theorem dX11_in_6 : decode cX11_in 6 = .ok (.iload_n 2, 1) := by decide +kernel
theorem dX11_in_7 : decode cX11_in 7 = .ok (.if_icmp .gt 7, 3) := by decide +kernel
theorem dX11_in_10 : decode cX11_in 10 = .ok (.iconst 1, 1) := by decide +kernel
theorem dX11_in_11 : decode cX11_in 11 = .ok (.goto 4, 3) := by decide +kernel
theorem dX11_in_14 : decode cX11_in 14 = .ok (.iconst 0, 1) := by decide +kernel
theorem dX11_in_15 : decode cX11_in 15 = .ok (.ireturn, 1) := by decide +kernel
theorem dX11_has_0 : decode cX11_has 0 = .ok (.iload_n 0, 1) := by decide +kernel
theorem dX11_has_1 : decode cX11_has 1 = .ok (.iload_n 1, 1) := by decide +kernel
theorem dX11_has_2 : decode cX11_has 2 = .ok (.ishr, 1) := by decide +kernel
theorem dX11_has_3 : decode cX11_has 3 = .ok (.iconst 1, 1) := by decide +kernel
theorem dX11_has_4 : decode cX11_has 4 = .ok (.iand, 1) := by decide +kernel
theorem dX11_has_5 : decode cX11_has 5 = .ok (.iconst 1, 1) := by decide +kernel
theorem dX11_has_6 : decode cX11_has 6 = .ok (.if_icmp .ne 7, 3) := by decide +kernel
theorem dX11_has_9 : decode cX11_has 9 = .ok (.iconst 1, 1) := by decide +kernel
theorem dX11_has_10 : decode cX11_has 10 = .ok (.goto 4, 3) := by decide +kernel
theorem dX11_has_13 : decode cX11_has 13 = .ok (.iconst 0, 1) := by decide +kernel
theorem dX11_has_14 : decode cX11_has 14 = .ok (.ireturn, 1) := by decide +kernel
theorem dX11_begin_0 : decode cX11_begin 0 = .ok (.iconst 0, 1) := by decide +kernel
theorem dX11_begin_1 : decode cX11_begin 1 = .ok (.istore_n 1, 1) := by decide +kernel
theorem dX11_begin_2 : decode cX11_begin 2 = .ok (.iload_n 1, 1) := by decide +kernel
theorem dX11_begin_3 : decode cX11_begin 3 = .ok (.bipush 20, 2) := by decide +kernel
theorem dX11_begin_5 : decode cX11_begin 5 = .ok (.if_icmp .ge 16, 3) := by decide +kernel
theorem dX11_begin_8 : decode cX11_begin 8 = .ok (.aload_n 0, 1) := by decide +kernel
theorem dX11_begin_9 : decode cX11_begin 9 = .ok (.getfield 25, 3) := by decide +kernel
theorem dX11_begin_12 : decode cX11_begin 12 = .ok (.iload_n 1, 1) := by decide +kernel
theorem dX11_begin_13 : decode cX11_begin 13 = .ok (.iconst 0, 1) := by decide +kernel
theorem dX11_begin_14 : decode cX11_begin 14 = .ok (.iastore, 1) := by decide +kernel
theorem dX11_begin_15 : decode cX11_begin 15 = .ok (.iinc 1 1, 3) := by decide +kernel
theorem dX11_begin_18 : decode cX11_begin 18 = .ok (.goto (-16), 3) := by decide +kernel
theorem dX11_begin_21 : decode cX11_begin 21 = .ok (.iconst 0, 1) := by decide +kernel
theorem dX11_begin_22 : decode cX11_begin 22 = .ok (.istore_n 1, 1) := by decide +kernel
theorem dX11_begin_23 : decode cX11_begin 23 = .ok (.iload_n 1, 1) := by decide +kernel
theorem dX11_begin_24 : decode cX11_begin 24 = .ok (.aload_n 0, 1) := by decide +kernel
