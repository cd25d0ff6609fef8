theorem dX8_append_26 : decode cX8_append 26 = .ok (.iadd, 1) := by decide +kernel
theorem dX8_append_27 : decode cX8_append 27 = .ok (.putfield 15, 3) := by decide +kernel
theorem dX8_append_30 : decode cX8_append 30 = .ok (.iconst 1, 1) := by decide +kernel
theorem dX8_append_31 : decode cX8_append 31 = .ok (.ireturn, 1) := by decide +kernel
set_option maxRecDepth 20000 in
theorem ggX8_setsLeaving_X8_restBy : GoodIn wsX8_setsLeaving wsX8_restBy := goodIn_r _ [6, 1, 7, 8, 9, 10, 11, 12, 13, 14, 15, 16] (by decide +kernel) (by decide +kernel)
set_option maxRecDepth 20000 in
theorem gX8_setsLeaving_X8_restBy : GoodIn wsX8_setsLeaving (wsV RX8 19 RX8 yX8_restBy wsX8_restBy) := goodIn_app (goodIn_of _ (by decide +kernel)) ggX8_setsLeaving_X8_restBy
theorem dX8_setsLeaving_0 : decode cX8_setsLeaving 0 = .ok (.iconst 0, 1) := by decide +kernel
theorem dX8_setsLeaving_1 : decode cX8_setsLeaving 1 = .ok (.istore_n 3, 1) := by decide +kernel
theorem dX8_setsLeaving_2 : decode cX8_setsLeaving 2 = .ok (.iconst 0, 1) := by decide +kernel
theorem dX8_setsLeaving_3 : decode cX8_setsLeaving 3 = .ok (.istore 4, 2) := by decide +kernel
theorem dX8_setsLeaving_5 : decode cX8_setsLeaving 5 = .ok (.iload 4, 2) := by decide +kernel
theorem dX8_setsLeaving_7 : decode cX8_setsLeaving 7 = .ok (.iconst 1, 1) := by decide +kernel
theorem dX8_setsLeaving_8 : decode cX8_setsLeaving 8 = .ok (.aload_n 0, 1) := by decide +kernel
theorem dX8_setsLeaving_9 : decode cX8_setsLeaving 9 = .ok (.getfield 15, 3) := by decide +kernel
theorem dX8_setsLeaving_12 : decode cX8_setsLeaving 12 = .ok (.ishl, 1) := by decide +kernel
theorem dX8_setsLeaving_13 : decode cX8_setsLeaving 13 = .ok (.if_icmp .ge 23, 3) := by decide +kernel
theorem dX8_setsLeaving_16 : decode cX8_setsLeaving 16 = .ok (.aload_n 0, 1) := by decide +kernel
theorem dX8_setsLeaving_17 : decode cX8_setsLeaving 17 = .ok (.iload 4, 2) := by decide +kernel
theorem dX8_setsLeaving_19 : decode cX8_setsLeaving 19 = .ok (.iload_n 1, 1) := by decide +kernel
theorem dX8_setsLeaving_20 : decode cX8_setsLeaving 20 = .ok (.invokevirtual 19, 3) := by decide +kernel
theorem dX8_setsLeaving_23 : decode cX8_setsLeaving 23 = .ok (.iload_n 2, 1) := by decide +kernel
theorem dX8_setsLeaving_24 : decode cX8_setsLeaving 24 = .ok (.if_icmp .ne 6, 3) := by decide +kernel
theorem dX8_setsLeaving_27 : decode cX8_setsLeaving 27 = .ok (.iinc 3 1, 3) := by decide +kernel
theorem dX8_setsLeaving_30 : decode cX8_setsLeaving 30 = .ok (.iinc 4 1, 3) := by decide +kernel
theorem dX8_setsLeaving_33 : decode cX8_setsLeaving 33 = .ok (.goto (-28), 3) := by decide +kernel
theorem dX8_setsLeaving_36 : decode cX8_setsLeaving 36 = .ok (.iload_n 3, 1) := by decide +kernel
theorem dX8_setsLeaving_37 : decode cX8_setsLeaving 37 = .ok (.ireturn, 1) := by decide +kernel
set_option maxRecDepth 20000 in
theorem ggX8_leastLeaving_X8_restBy : GoodIn wsX8_leastLeaving wsX8_restBy := goodIn_r _ [6, 1, 7, 8, 9, 10, 11, 12, 13, 14, 15, 16] (by decide +kernel) (by decide +kernel)
set_option maxRecDepth 20000 in
theorem gX8_leastLeaving_X8_restBy : GoodIn wsX8_leastLeaving (wsV RX8 19 RX8 yX8_restBy wsX8_restBy) := goodIn_app (goodIn_of _ (by decide +kernel)) ggX8_leastLeaving_X8_restBy
theorem dX8_leastLeaving_0 : decode cX8_leastLeaving 0 = .ok (.iconst 0, 1) := by decide +kernel
theorem dX8_leastLeaving_1 : decode cX8_leastLeaving 1 = .ok (.istore_n 3, 1) := by decide +kernel
theorem dX8_leastLeaving_2 : decode cX8_leastLeaving 2 = .ok (.iload_n 3, 1) := by decide +kernel
theorem dX8_leastLeaving_3 : decode cX8_leastLeaving 3 = .ok (.iconst 1, 1) := by decide +kernel
theorem dX8_leastLeaving_4 : decode cX8_leastLeaving 4 = .ok (.aload_n 0, 1) := by decide +kernel
theorem dX8_leastLeaving_5 : decode cX8_leastLeaving 5 = .ok (.getfield 15, 3) := by decide +kernel
theorem dX8_leastLeaving_8 : decode cX8_leastLeaving 8 = .ok (.ishl, 1) := by decide +kernel
theorem dX8_leastLeaving_9 : decode cX8_leastLeaving 9 = .ok (.if_icmp .ge 21, 3) := by decide +kernel
theorem dX8_leastLeaving_12 : decode cX8_leastLeaving 12 = .ok (.aload_n 0, 1) := by decide +kernel
theorem dX8_leastLeaving_13 : decode cX8_leastLeaving 13 = .ok (.iload_n 3, 1) := by decide +kernel
theorem dX8_leastLeaving_14 : decode cX8_leastLeaving 14 = .ok (.iload_n 1, 1) := by decide +kernel
theorem dX8_leastLeaving_15 : decode cX8_leastLeaving 15 = .ok (.invokevirtual 19, 3) := by decide +kernel
theorem dX8_leastLeaving_18 : decode cX8_leastLeaving 18 = .ok (.iload_n 2, 1) := by decide +kernel
theorem dX8_leastLeaving_19 : decode cX8_leastLeaving 19 = .ok (.if_icmp .ne 5, 3) := by decide +kernel
theorem dX8_leastLeaving_22 : decode cX8_leastLeaving 22 = .ok (.iload_n 3, 1) := by decide +kernel
theorem dX8_leastLeaving_23 : decode cX8_leastLeaving 23 = .ok (.ireturn, 1) := by decide +kernel
theorem dX8_leastLeaving_24 : decode cX8_leastLeaving 24 = .ok (.iinc 3 1, 3) := by decide +kernel
theorem dX8_leastLeaving_27 : decode cX8_leastLeaving 27 = .ok (.goto (-25), 3) := by decide +kernel
theorem dX8_leastLeaving_30 : decode cX8_leastLeaving 30 = .ok (.iconst (-1), 1) := by decide +kernel
theorem dX8_leastLeaving_31 : decode cX8_leastLeaving 31 = .ok (.ireturn, 1) := by decide +kernel
set_option maxRecDepth 20000 in
theorem ggX8_restBy_X3_opened : GoodIn wsX8_restBy wsX3_opened := goodIn_r _ [6, 7, 8, 5, 9] (by decide +kernel) (by decide +kernel)
set_option maxRecDepth 20000 in
theorem gX8_restBy_X3_opened : GoodIn wsX8_restBy (va_wsS RX8 23 yX3_opened wsX3_opened) := goodIn_app (goodIn_of _ (by decide +kernel)) ggX8_restBy_X3_opened
theorem dX8_restBy_0 : decode cX8_restBy 0 = .ok (.iload_n 2, 1) := by decide +kernel
theorem dX8_restBy_1 : decode cX8_restBy 1 = .ok (.istore_n 3, 1) := by decide +kernel
theorem dX8_restBy_2 : decode cX8_restBy 2 = .ok (.iconst 0, 1) := by decide +kernel
theorem dX8_restBy_3 : decode cX8_restBy 3 = .ok (.istore 4, 2) := by decide +kernel
theorem dX8_restBy_5 : decode cX8_restBy 5 = .ok (.iload 4, 2) := by decide +kernel
theorem dX8_restBy_7 : decode cX8_restBy 7 = .ok (.aload_n 0, 1) := by decide +kernel
theorem dX8_restBy_8 : decode cX8_restBy 8 = .ok (.getfield 15, 3) := by decide +kernel
theorem dX8_restBy_11 : decode cX8_restBy 11 = .ok (.if_icmp .ge 37, 3) := by decide +kernel
theorem dX8_restBy_14 : decode cX8_restBy 14 = .ok (.iload_n 1, 1) := by decide +kernel
theorem dX8_restBy_15 : decode cX8_restBy 15 = .ok (.iload 4, 2) := by decide +kernel
theorem dX8_restBy_17 : decode cX8_restBy 17 = .ok (.ishr, 1) := by decide +kernel
theorem dX8_restBy_18 : decode cX8_restBy 18 = .ok (.iconst 1, 1) := by decide +kernel
theorem dX8_restBy_19 : decode cX8_restBy 19 = .ok (.iand, 1) := by decide +kernel
theorem dX8_restBy_20 : decode cX8_restBy 20 = .ok (.ifCond .eq 22, 3) := by decide +kernel
theorem dX8_restBy_23 : decode cX8_restBy 23 = .ok (.iload_n 3, 1) := by decide +kernel
theorem dX8_restBy_24 : decode cX8_restBy 24 = .ok (.invokestatic 23, 3) := by decide +kernel
theorem dX8_restBy_27 : decode cX8_restBy 27 = .ok (.aload_n 0, 1) := by decide +kernel
theorem dX8_restBy_28 : decode cX8_restBy 28 = .ok (.getfield 11, 3) := by decide +kernel
theorem dX8_restBy_31 : decode cX8_restBy 31 = .ok (.iload 4, 2) := by decide +kernel
theorem dX8_restBy_33 : decode cX8_restBy 33 = .ok (.iaload, 1) := by decide +kernel
theorem dX8_restBy_34 : decode cX8_restBy 34 = .ok (.isub, 1) := by decide +kernel
theorem dX8_restBy_35 : decode cX8_restBy 35 = .ok (.istore_n 3, 1) := by decide +kernel
theorem dX8_restBy_36 : decode cX8_restBy 36 = .ok (.iload_n 3, 1) := by decide +kernel
theorem dX8_restBy_37 : decode cX8_restBy 37 = .ok (.ifCond .ge 5, 3) := by decide +kernel
theorem dX8_restBy_40 : decode cX8_restBy 40 = .ok (.iconst (-1), 1) := by decide +kernel
theorem dX8_restBy_41 : decode cX8_restBy 41 = .ok (.ireturn, 1) := by decide +kernel
theorem dX8_restBy_42 : decode cX8_restBy 42 = .ok (.iinc 4 1, 3) := by decide +kernel
theorem dX8_restBy_45 : decode cX8_restBy 45 = .ok (.goto (-40), 3) := by decide +kernel
theorem dX8_restBy_48 : decode cX8_restBy 48 = .ok (.iload_n 3, 1) := by decide +kernel
theorem dX8_restBy_49 : decode cX8_restBy 49 = .ok (.ireturn, 1) := by decide +kernel
theorem dX9_init_0 : decode cX9_init 0 = .ok (.aload_n 0, 1) := by decide +kernel
theorem dX9_init_1 : decode cX9_init 1 = .ok (.invokespecial 3, 3) := by decide +kernel
theorem dX9_init_4 : decode cX9_init 4 = .ok (.aload_n 0, 1) := by decide +kernel
theorem dX9_init_5 : decode cX9_init 5 = .ok (.bipush 7, 2) := by decide +kernel
theorem dX9_init_7 : decode cX9_init 7 = .ok (.newarray .int, 2) := by decide +kernel
theorem dX9_init_9 : decode cX9_init 9 = .ok (.putfield 11, 3) := by decide +kernel
theorem dX9_init_12 : decode cX9_init 12 = .ok (.return_, 1) := by decide +kernel
set_option maxRecDepth 20000 in
theorem ggX9_measure_J7_fill_53178 : GoodIn wsX9_measure wsJ7_fill_53178 := goodIn_r _ [14] (by decide +kernel) (by decide +kernel)
set_option maxRecDepth 20000 in
theorem gX9_measure_J7_fill_53178 : GoodIn wsX9_measure (va_wsS RX9 18 yJ7_fill_53178 wsJ7_fill_53178) := goodIn_app (goodIn_of _ (by decide +kernel)) ggX9_measure_J7_fill_53178
set_option maxRecDepth 20000 in
theorem ggX9_measure_X9_stepCost : GoodIn wsX9_measure wsX9_stepCost := goodIn_r _ [18, 19, 20, 22, 23, 24, 25, 26, 27, 28, 29, 30, 31, 32, 33] (by decide +kernel) (by decide +kernel)
set_option maxRecDepth 20000 in
theorem gX9_measure_X9_stepCost : GoodIn wsX9_measure (va_wsS RX9 37 yX9_stepCost wsX9_stepCost) := goodIn_app (goodIn_of _ (by decide +kernel)) ggX9_measure_X9_stepCost
theorem dX9_measure_0 : decode cX9_measure 0 = .ok (.aload_n 0, 1) := by decide +kernel
theorem dX9_measure_1 : decode cX9_measure 1 = .ok (.getfield 11, 3) := by decide +kernel
theorem dX9_measure_4 : decode cX9_measure 4 = .ok (.ldc 17, 2) := by decide +kernel
theorem dX9_measure_6 : decode cX9_measure 6 = .ok (.invokestatic 18, 3) := by decide +kernel
theorem dX9_measure_9 : decode cX9_measure 9 = .ok (.aload_n 0, 1) := by decide +kernel
theorem dX9_measure_10 : decode cX9_measure 10 = .ok (.getfield 11, 3) := by decide +kernel
theorem dX9_measure_13 : decode cX9_measure 13 = .ok (.iload_n 2, 1) := by decide +kernel
theorem dX9_measure_14 : decode cX9_measure 14 = .ok (.iconst 0, 1) := by decide +kernel
theorem dX9_measure_15 : decode cX9_measure 15 = .ok (.iastore, 1) := by decide +kernel
theorem dX9_measure_16 : decode cX9_measure 16 = .ok (.iconst 1, 1) := by decide +kernel
theorem dX9_measure_17 : decode cX9_measure 17 = .ok (.istore_n 3, 1) := by decide +kernel
theorem dX9_measure_18 : decode cX9_measure 18 = .ok (.iload_n 3, 1) := by decide +kernel
theorem dX9_measure_19 : decode cX9_measure 19 = .ok (.aload_n 1, 1) := by decide +kernel
theorem dX9_measure_20 : decode cX9_measure 20 = .ok (.getfield 24, 3) := by decide +kernel
theorem dX9_measure_23 : decode cX9_measure 23 = .ok (.if_icmp .ge 107, 3) := by decide +kernel
theorem dX9_measure_26 : decode cX9_measure 26 = .ok (.iconst 0, 1) := by decide +kernel
theorem dX9_measure_27 : decode cX9_measure 27 = .ok (.istore 4, 2) := by decide +kernel
theorem dX9_measure_29 : decode cX9_measure 29 = .ok (.iload 4, 2) := by decide +kernel
theorem dX9_measure_31 : decode cX9_measure 31 = .ok (.aload_n 1, 1) := by decide +kernel
theorem dX9_measure_32 : decode cX9_measure 32 = .ok (.getfield 28, 3) := by decide +kernel
theorem dX9_measure_35 : decode cX9_measure 35 = .ok (.if_icmp .ge 89, 3) := by decide +kernel
theorem dX9_measure_38 : decode cX9_measure 38 = .ok (.aload_n 1, 1) := by decide +kernel
theorem dX9_measure_39 : decode cX9_measure 39 = .ok (.getfield 31, 3) := by decide +kernel
theorem dX9_measure_42 : decode cX9_measure 42 = .ok (.iload 4, 2) := by decide +kernel
theorem dX9_measure_44 : decode cX9_measure 44 = .ok (.iaload, 1) := by decide +kernel
theorem dX9_measure_45 : decode cX9_measure 45 = .ok (.istore 5, 2) := by decide +kernel
theorem dX9_measure_47 : decode cX9_measure 47 = .ok (.aload_n 1, 1) := by decide +kernel
theorem dX9_measure_48 : decode cX9_measure 48 = .ok (.getfield 34, 3) := by decide +kernel
theorem dX9_measure_51 : decode cX9_measure 51 = .ok (.iload 4, 2) := by decide +kernel
theorem dX9_measure_53 : decode cX9_measure 53 = .ok (.iaload, 1) := by decide +kernel
theorem dX9_measure_54 : decode cX9_measure 54 = .ok (.istore 6, 2) := by decide +kernel
theorem dX9_measure_56 : decode cX9_measure 56 = .ok (.aload_n 1, 1) := by decide +kernel
theorem dX9_measure_57 : decode cX9_measure 57 = .ok (.iload 4, 2) := by decide +kernel
theorem dX9_measure_59 : decode cX9_measure 59 = .ok (.invokestatic 37, 3) := by decide +kernel
theorem dX9_measure_62 : decode cX9_measure 62 = .ok (.istore 7, 2) := by decide +kernel
theorem dX9_measure_64 : decode cX9_measure 64 = .ok (.aload_n 0, 1) := by decide +kernel
theorem dX9_measure_65 : decode cX9_measure 65 = .ok (.getfield 11, 3) := by decide +kernel
theorem dX9_measure_68 : decode cX9_measure 68 = .ok (.iload 5, 2) := by decide +kernel
theorem dX9_measure_70 : decode cX9_measure 70 = .ok (.aload_n 0, 1) := by decide +kernel
theorem dX9_measure_71 : decode cX9_measure 71 = .ok (.getfield 11, 3) := by decide +kernel
theorem dX9_measure_74 : decode cX9_measure 74 = .ok (.iload 5, 2) := by decide +kernel
theorem dX9_measure_76 : decode cX9_measure 76 = .ok (.iaload, 1) := by decide +kernel
theorem dX9_measure_77 : decode cX9_measure 77 = .ok (.aload_n 0, 1) := by decide +kernel
theorem dX9_measure_78 : decode cX9_measure 78 = .ok (.getfield 11, 3) := by decide +kernel
theorem dX9_measure_81 : decode cX9_measure 81 = .ok (.iload 6, 2) := by decide +kernel
theorem dX9_measure_83 : decode cX9_measure 83 = .ok (.iaload, 1) := by decide +kernel
theorem dX9_measure_84 : decode cX9_measure 84 = .ok (.iload 7, 2) := by decide +kernel
theorem dX9_measure_86 : decode cX9_measure 86 = .ok (.iadd, 1) := by decide +kernel
theorem dX9_measure_87 : decode cX9_measure 87 = .ok (.invokestatic 41, 3) := by decide +kernel
theorem dX9_measure_90 : decode cX9_measure 90 = .ok (.iastore, 1) := by decide +kernel
theorem dX9_measure_91 : decode cX9_measure 91 = .ok (.aload_n 0, 1) := by decide +kernel
theorem dX9_measure_92 : decode cX9_measure 92 = .ok (.getfield 11, 3) := by decide +kernel
theorem dX9_measure_95 : decode cX9_measure 95 = .ok (.iload 6, 2) := by decide +kernel
theorem dX9_measure_97 : decode cX9_measure 97 = .ok (.aload_n 0, 1) := by decide +kernel
theorem dX9_measure_98 : decode cX9_measure 98 = .ok (.getfield 11, 3) := by decide +kernel
theorem dX9_measure_101 : decode cX9_measure 101 = .ok (.iload 6, 2) := by decide +kernel
theorem dX9_measure_103 : decode cX9_measure 103 = .ok (.iaload, 1) := by decide +kernel
theorem dX9_measure_104 : decode cX9_measure 104 = .ok (.aload_n 0, 1) := by decide +kernel
theorem dX9_measure_105 : decode cX9_measure 105 = .ok (.getfield 11, 3) := by decide +kernel
theorem dX9_measure_108 : decode cX9_measure 108 = .ok (.iload 5, 2) := by decide +kernel
theorem dX9_measure_110 : decode cX9_measure 110 = .ok (.iaload, 1) := by decide +kernel
theorem dX9_measure_111 : decode cX9_measure 111 = .ok (.iload 7, 2) := by decide +kernel
theorem dX9_measure_113 : decode cX9_measure 113 = .ok (.iadd, 1) := by decide +kernel
theorem dX9_measure_114 : decode cX9_measure 114 = .ok (.invokestatic 41, 3) := by decide +kernel
theorem dX9_measure_117 : decode cX9_measure 117 = .ok (.iastore, 1) := by decide +kernel
theorem dX9_measure_118 : decode cX9_measure 118 = .ok (.iinc 4 1, 3) := by decide +kernel
theorem dX9_measure_121 : decode cX9_measure 121 = .ok (.goto (-92), 3) := by decide +kernel
theorem dX9_measure_124 : decode cX9_measure 124 = .ok (.iinc 3 1, 3) := by decide +kernel
theorem dX9_measure_127 : decode cX9_measure 127 = .ok (.goto (-109), 3) := by decide +kernel
theorem dX9_measure_130 : decode cX9_measure 130 = .ok (.return_, 1) := by decide +kernel
theorem dX9_stepCost_0 : decode cX9_stepCost 0 = .ok (.aload_n 0, 1) := by decide +kernel
theorem dX9_stepCost_1 : decode cX9_stepCost 1 = .ok (.getfield 47, 3) := by decide +kernel
theorem dX9_stepCost_4 : decode cX9_stepCost 4 = .ok (.iload_n 1, 1) := by decide +kernel
theorem dX9_stepCost_5 : decode cX9_stepCost 5 = .ok (.iaload, 1) := by decide +kernel
theorem dX9_stepCost_6 : decode cX9_stepCost 6 = .ok (.istore_n 2, 1) := by decide +kernel
theorem dX9_stepCost_7 : decode cX9_stepCost 7 = .ok (.aload_n 0, 1) := by decide +kernel
theorem dX9_stepCost_8 : decode cX9_stepCost 8 = .ok (.getfield 50, 3) := by decide +kernel
theorem dX9_stepCost_11 : decode cX9_stepCost 11 = .ok (.iload_n 1, 1) := by decide +kernel
theorem dX9_stepCost_12 : decode cX9_stepCost 12 = .ok (.iaload, 1) := by decide +kernel
theorem dX9_stepCost_13 : decode cX9_stepCost 13 = .ok (.iconst 2, 1) := by decide +kernel
theorem dX9_stepCost_14 : decode cX9_stepCost 14 = .ok (.if_icmp .ne 10, 3) := by decide +kernel
theorem dX9_stepCost_17 : decode cX9_stepCost 17 = .ok (.bipush 100, 2) := by decide +kernel
theorem dX9_stepCost_19 : decode cX9_stepCost 19 = .ok (.iload_n 2, 1) := by decide +kernel
theorem dX9_stepCost_20 : decode cX9_stepCost 20 = .ok (.iadd, 1) := by decide +kernel
theorem dX9_stepCost_21 : decode cX9_stepCost 21 = .ok (.goto 4, 3) := by decide +kernel
theorem dX9_stepCost_24 : decode cX9_stepCost 24 = .ok (.iload_n 2, 1) := by decide +kernel
theorem dX9_stepCost_25 : decode cX9_stepCost 25 = .ok (.ireturn, 1) := by decide +kernel
theorem dX9_leadFrom_0 : decode cX9_leadFrom 0 = .ok (.aload_n 0, 1) := by decide +kernel
theorem dX9_leadFrom_1 : decode cX9_leadFrom 1 = .ok (.getfield 11, 3) := by decide +kernel
theorem dX9_leadFrom_4 : decode cX9_leadFrom 4 = .ok (.iload_n 1, 1) := by decide +kernel
theorem dX9_leadFrom_5 : decode cX9_leadFrom 5 = .ok (.iaload, 1) := by decide +kernel
theorem dX9_leadFrom_6 : decode cX9_leadFrom 6 = .ok (.ldc 17, 2) := by decide +kernel
theorem dX9_leadFrom_8 : decode cX9_leadFrom 8 = .ok (.if_icmp .ge 7, 3) := by decide +kernel
theorem dX9_leadFrom_11 : decode cX9_leadFrom 11 = .ok (.iconst 1, 1) := by decide +kernel
theorem dX9_leadFrom_12 : decode cX9_leadFrom 12 = .ok (.goto 4, 3) := by decide +kernel
theorem dX9_leadFrom_15 : decode cX9_leadFrom 15 = .ok (.iconst 0, 1) := by decide +kernel
theorem dX9_leadFrom_16 : decode cX9_leadFrom 16 = .ok (.ireturn, 1) := by decide +kernel
theorem dX9_banditsFrom_0 : decode cX9_banditsFrom 0 = .ok (.aload_n 0, 1) := by decide +kernel
theorem dX9_banditsFrom_1 : decode cX9_banditsFrom 1 = .ok (.getfield 11, 3) := by decide +kernel
theorem dX9_banditsFrom_4 : decode cX9_banditsFrom 4 = .ok (.iload_n 1, 1) := by decide +kernel
theorem dX9_banditsFrom_5 : decode cX9_banditsFrom 5 = .ok (.iaload, 1) := by decide +kernel
theorem dX9_banditsFrom_6 : decode cX9_banditsFrom 6 = .ok (.bipush 100, 2) := by decide +kernel
theorem dX9_banditsFrom_8 : decode cX9_banditsFrom 8 = .ok (.idiv, 1) := by decide +kernel
theorem dX9_banditsFrom_9 : decode cX9_banditsFrom 9 = .ok (.ireturn, 1) := by decide +kernel
theorem dX9_hoursFrom_0 : decode cX9_hoursFrom 0 = .ok (.aload_n 0, 1) := by decide +kernel
theorem dX9_hoursFrom_1 : decode cX9_hoursFrom 1 = .ok (.getfield 11, 3) := by decide +kernel
theorem dX9_hoursFrom_4 : decode cX9_hoursFrom 4 = .ok (.iload_n 1, 1) := by decide +kernel
theorem dX9_hoursFrom_5 : decode cX9_hoursFrom 5 = .ok (.iaload, 1) := by decide +kernel
theorem dX9_hoursFrom_6 : decode cX9_hoursFrom 6 = .ok (.bipush 100, 2) := by decide +kernel
theorem dX9_hoursFrom_8 : decode cX9_hoursFrom 8 = .ok (.irem, 1) := by decide +kernel
theorem dX9_hoursFrom_9 : decode cX9_hoursFrom 9 = .ok (.ireturn, 1) := by decide +kernel
set_option maxRecDepth 20000 in
theorem ggX9_firstRoad_X1_touches : GoodIn wsX9_firstRoad wsX1_touches := goodIn_r _ [7, 8, 9, 20, 21, 22, 23, 24, 25, 26, 27, 28, 29, 30, 31] (by decide +kernel) (by decide +kernel)
set_option maxRecDepth 20000 in
theorem gX9_firstRoad_X1_touches : GoodIn wsX9_firstRoad (wsV RX9 53 RX1 yX1_touches wsX1_touches) := goodIn_app (goodIn_of _ (by decide +kernel)) ggX9_firstRoad_X1_touches
set_option maxRecDepth 20000 in
theorem ggX9_firstRoad_X1_farEnd : GoodIn wsX9_firstRoad wsX1_farEnd := goodIn_r _ [13, 8, 9, 20, 21, 22, 23, 24, 25, 26, 27, 28, 29, 30, 31] (by decide +kernel) (by decide +kernel)
set_option maxRecDepth 20000 in
theorem gX9_firstRoad_X1_farEnd : GoodIn wsX9_firstRoad (wsV RX9 57 RX1 yX1_farEnd wsX1_farEnd) := goodIn_app (goodIn_of _ (by decide +kernel)) ggX9_firstRoad_X1_farEnd
set_option maxRecDepth 20000 in
theorem ggX9_firstRoad_X9_stepCost : GoodIn wsX9_firstRoad wsX9_stepCost := goodIn_r _ [17, 18, 19, 20, 21, 22, 23, 24, 25, 26, 27, 28, 29, 30, 31] (by decide +kernel) (by decide +kernel)
set_option maxRecDepth 20000 in
theorem gX9_firstRoad_X9_stepCost : GoodIn wsX9_firstRoad (va_wsS RX9 37 yX9_stepCost wsX9_stepCost) := goodIn_app (goodIn_of _ (by decide +kernel)) ggX9_firstRoad_X9_stepCost
theorem dX9_firstRoad_0 : decode cX9_firstRoad 0 = .ok (.iconst 0, 1) := by decide +kernel
theorem dX9_firstRoad_1 : decode cX9_firstRoad 1 = .ok (.istore_n 3, 1) := by decide +kernel
theorem dX9_firstRoad_2 : decode cX9_firstRoad 2 = .ok (.iload_n 3, 1) := by decide +kernel
theorem dX9_firstRoad_3 : decode cX9_firstRoad 3 = .ok (.aload_n 1, 1) := by decide +kernel
theorem dX9_firstRoad_4 : decode cX9_firstRoad 4 = .ok (.getfield 28, 3) := by decide +kernel
theorem dX9_firstRoad_7 : decode cX9_firstRoad 7 = .ok (.if_icmp .ge 46, 3) := by decide +kernel
theorem dX9_firstRoad_10 : decode cX9_firstRoad 10 = .ok (.aload_n 1, 1) := by decide +kernel
theorem dX9_firstRoad_11 : decode cX9_firstRoad 11 = .ok (.iload_n 3, 1) := by decide +kernel
theorem dX9_firstRoad_12 : decode cX9_firstRoad 12 = .ok (.iload_n 2, 1) := by decide +kernel
theorem dX9_firstRoad_13 : decode cX9_firstRoad 13 = .ok (.invokevirtual 53, 3) := by decide +kernel
theorem dX9_firstRoad_16 : decode cX9_firstRoad 16 = .ok (.ifCond .eq 31, 3) := by decide +kernel
theorem dX9_firstRoad_19 : decode cX9_firstRoad 19 = .ok (.aload_n 0, 1) := by decide +kernel
theorem dX9_firstRoad_20 : decode cX9_firstRoad 20 = .ok (.getfield 11, 3) := by decide +kernel
theorem dX9_firstRoad_23 : decode cX9_firstRoad 23 = .ok (.aload_n 1, 1) := by decide +kernel
theorem dX9_firstRoad_24 : decode cX9_firstRoad 24 = .ok (.iload_n 3, 1) := by decide +kernel
theorem dX9_firstRoad_25 : decode cX9_firstRoad 25 = .ok (.iload_n 2, 1) := by decide +kernel
theorem dX9_firstRoad_26 : decode cX9_firstRoad 26 = .ok (.invokevirtual 57, 3) := by decide +kernel
theorem dX9_firstRoad_29 : decode cX9_firstRoad 29 = .ok (.iaload, 1) := by decide +kernel
theorem dX9_firstRoad_30 : decode cX9_firstRoad 30 = .ok (.aload_n 1, 1) := by decide +kernel
theorem dX9_firstRoad_31 : decode cX9_firstRoad 31 = .ok (.iload_n 3, 1) := by decide +kernel
theorem dX9_firstRoad_32 : decode cX9_firstRoad 32 = .ok (.invokestatic 37, 3) := by decide +kernel
theorem dX9_firstRoad_35 : decode cX9_firstRoad 35 = .ok (.iadd, 1) := by decide +kernel
theorem dX9_firstRoad_36 : decode cX9_firstRoad 36 = .ok (.aload_n 0, 1) := by decide +kernel
theorem dX9_firstRoad_37 : decode cX9_firstRoad 37 = .ok (.getfield 11, 3) := by decide +kernel
theorem dX9_firstRoad_40 : decode cX9_firstRoad 40 = .ok (.iload_n 2, 1) := by decide +kernel
theorem dX9_firstRoad_41 : decode cX9_firstRoad 41 = .ok (.iaload, 1) := by decide +kernel
theorem dX9_firstRoad_42 : decode cX9_firstRoad 42 = .ok (.if_icmp .ne 5, 3) := by decide +kernel
theorem dX9_firstRoad_45 : decode cX9_firstRoad 45 = .ok (.iload_n 3, 1) := by decide +kernel
theorem dX9_firstRoad_46 : decode cX9_firstRoad 46 = .ok (.ireturn, 1) := by decide +kernel
theorem dX9_firstRoad_47 : decode cX9_firstRoad 47 = .ok (.iinc 3 1, 3) := by decide +kernel
theorem dX9_firstRoad_50 : decode cX9_firstRoad 50 = .ok (.goto (-48), 3) := by decide +kernel
theorem dX9_firstRoad_53 : decode cX9_firstRoad 53 = .ok (.iconst (-1), 1) := by decide +kernel
theorem dX9_firstRoad_54 : decode cX9_firstRoad 54 = .ok (.ireturn, 1) := by decide +kernel
set_option maxRecDepth 20000 in
theorem ggX10_init_X6_init : GoodIn wsX10_init wsX6_init := goodIn_r _ [35, 36, 2, 3, 37, 38, 39, 40, 41, 91, 92, 93, 94, 95, 96, 97, 98, 99, 100] (by decide +kernel) (by decide +kernel)
set_option maxRecDepth 20000 in
theorem gX10_init_X6_init_n9 : GoodIn wsX10_init (wsX6_init) := ggX10_init_X6_init
set_option maxRecDepth 20000 in
theorem ggX10_init_X1_init : GoodIn wsX10_init wsX1_init := goodIn_r _ [43, 44, 2, 3, 39, 45, 46, 47, 48, 49, 50, 51, 52, 110, 111, 112, 113, 114, 115, 116, 117, 118, 119, 120, 121] (by decide +kernel) (by decide +kernel)
set_option maxRecDepth 20000 in
theorem gX10_init_X1_init_n18 : GoodIn wsX10_init (wsX1_init) := ggX10_init_X1_init
set_option maxRecDepth 20000 in
theorem ggX10_init_X0_init : GoodIn wsX10_init wsX0_init := goodIn_r _ [55, 56, 2, 3, 57, 58, 59, 60, 61, 62, 63, 64, 65, 66, 67, 39, 68, 69, 70, 71, 136, 137, 138, 139, 140, 122, 123, 124, 125, 126, 127] (by decide +kernel) (by decide +kernel)
set_option maxRecDepth 20000 in
theorem gX10_init_X0_init : GoodIn wsX10_init (wsX0_init) := ggX10_init_X0_init
set_option maxRecDepth 20000 in
theorem ggX10_init_X8_init : GoodIn wsX10_init wsX8_init := goodIn_r _ [73, 74, 2, 3, 39, 75, 128, 129] (by decide +kernel) (by decide +kernel)
set_option maxRecDepth 20000 in
theorem gX10_init_X8_init_n32 : GoodIn wsX10_init (wsX8_init) := ggX10_init_X8_init
set_option maxRecDepth 20000 in
theorem ggX10_init_X4_init : GoodIn wsX10_init wsX4_init := goodIn_r _ [77, 78, 2, 3, 39, 79, 80, 81, 130, 131, 132, 133] (by decide +kernel) (by decide +kernel)
set_option maxRecDepth 20000 in
theorem gX10_init_X4_init_n39 : GoodIn wsX10_init (wsX4_init) := ggX10_init_X4_init
set_option maxRecDepth 20000 in
theorem ggX10_init_X9_init : GoodIn wsX10_init wsX9_init := goodIn_r _ [83, 84, 2, 3, 39, 85, 134] (by decide +kernel) (by decide +kernel)
set_option maxRecDepth 20000 in
theorem gX10_init_X9_init_n46 : GoodIn wsX10_init (wsX9_init) := ggX10_init_X9_init
set_option maxRecDepth 20000 in
theorem ggX10_init_X5_init : GoodIn wsX10_init wsX5_init := goodIn_r _ [87, 88, 2, 3, 89, 90, 135] (by decide +kernel) (by decide +kernel)
set_option maxRecDepth 20000 in
theorem gX10_init_X5_init_n53 : GoodIn wsX10_init (wsX5_init) := ggX10_init_X5_init
theorem dX10_init_0 : decode cX10_init 0 = .ok (.aload_n 0, 1) := by decide +kernel
theorem dX10_init_1 : decode cX10_init 1 = .ok (.invokespecial 1, 3) := by decide +kernel
theorem dX10_init_4 : decode cX10_init 4 = .ok (.aload_n 0, 1) := by decide +kernel
theorem dX10_init_5 : decode cX10_init 5 = .ok (.new 7, 3) := by decide +kernel
theorem dX10_init_8 : decode cX10_init 8 = .ok (.dup, 1) := by decide +kernel
theorem dX10_init_9 : decode cX10_init 9 = .ok (.invokespecial 9, 3) := by decide +kernel
theorem dX10_init_12 : decode cX10_init 12 = .ok (.putfield 10, 3) := by decide +kernel
theorem dX10_init_15 : decode cX10_init 15 = .ok (.aload_n 0, 1) := by decide +kernel
theorem dX10_init_16 : decode cX10_init 16 = .ok (.new 16, 3) := by decide +kernel
theorem dX10_init_19 : decode cX10_init 19 = .ok (.dup, 1) := by decide +kernel
theorem dX10_init_20 : decode cX10_init 20 = .ok (.invokespecial 18, 3) := by decide +kernel
theorem dX10_init_23 : decode cX10_init 23 = .ok (.putfield 19, 3) := by decide +kernel
theorem dX10_init_26 : decode cX10_init 26 = .ok (.aload_n 0, 1) := by decide +kernel
theorem dX10_init_27 : decode cX10_init 27 = .ok (.new 23, 3) := by decide +kernel
theorem dX10_init_30 : decode cX10_init 30 = .ok (.dup, 1) := by decide +kernel
theorem dX10_init_31 : decode cX10_init 31 = .ok (.invokespecial 25, 3) := by decide +kernel
theorem dX10_init_34 : decode cX10_init 34 = .ok (.putfield 26, 3) := by decide +kernel
theorem dX10_init_37 : decode cX10_init 37 = .ok (.aload_n 0, 1) := by decide +kernel
theorem dX10_init_38 : decode cX10_init 38 = .ok (.new 30, 3) := by decide +kernel
theorem dX10_init_41 : decode cX10_init 41 = .ok (.dup, 1) := by decide +kernel
theorem dX10_init_42 : decode cX10_init 42 = .ok (.invokespecial 32, 3) := by decide +kernel
theorem dX10_init_45 : decode cX10_init 45 = .ok (.putfield 33, 3) := by decide +kernel
theorem dX10_init_48 : decode cX10_init 48 = .ok (.aload_n 0, 1) := by decide +kernel
theorem dX10_init_49 : decode cX10_init 49 = .ok (.new 37, 3) := by decide +kernel
theorem dX10_init_52 : decode cX10_init 52 = .ok (.dup, 1) := by decide +kernel
theorem dX10_init_53 : decode cX10_init 53 = .ok (.invokespecial 39, 3) := by decide +kernel
theorem dX10_init_56 : decode cX10_init 56 = .ok (.putfield 40, 3) := by decide +kernel
theorem dX10_init_59 : decode cX10_init 59 = .ok (.aload_n 0, 1) := by decide +kernel
theorem dX10_init_60 : decode cX10_init 60 = .ok (.new 44, 3) := by decide +kernel
theorem dX10_init_63 : decode cX10_init 63 = .ok (.dup, 1) := by decide +kernel
theorem dX10_init_64 : decode cX10_init 64 = .ok (.invokespecial 46, 3) := by decide +kernel
theorem dX10_init_67 : decode cX10_init 67 = .ok (.putfield 47, 3) := by decide +kernel
theorem dX10_init_70 : decode cX10_init 70 = .ok (.aload_n 0, 1) := by decide +kernel
theorem dX10_init_71 : decode cX10_init 71 = .ok (.new 51, 3) := by decide +kernel
theorem dX10_init_74 : decode cX10_init 74 = .ok (.dup, 1) := by decide +kernel
theorem dX10_init_75 : decode cX10_init 75 = .ok (.invokespecial 53, 3) := by decide +kernel
theorem dX10_init_78 : decode cX10_init 78 = .ok (.putfield 54, 3) := by decide +kernel
theorem dX10_init_81 : decode cX10_init 81 = .ok (.aload_n 0, 1) := by decide +kernel
theorem dX10_init_82 : decode cX10_init 82 = .ok (.new 51, 3) := by decide +kernel
theorem dX10_init_85 : decode cX10_init 85 = .ok (.dup, 1) := by decide +kernel
theorem dX10_init_86 : decode cX10_init 86 = .ok (.invokespecial 53, 3) := by decide +kernel
theorem dX10_init_89 : decode cX10_init 89 = .ok (.putfield 58, 3) := by decide +kernel
theorem dX10_init_92 : decode cX10_init 92 = .ok (.aload_n 0, 1) := by decide +kernel
theorem dX10_init_93 : decode cX10_init 93 = .ok (.new 51, 3) := by decide +kernel
theorem dX10_init_96 : decode cX10_init 96 = .ok (.dup, 1) := by decide +kernel
theorem dX10_init_97 : decode cX10_init 97 = .ok (.invokespecial 53, 3) := by decide +kernel
theorem dX10_init_100 : decode cX10_init 100 = .ok (.putfield 61, 3) := by decide +kernel
theorem dX10_init_103 : decode cX10_init 103 = .ok (.return_, 1) := by decide +kernel
set_option maxRecDepth 20000 in
theorem ggX10_write_X10_within : GoodIn wsX10_write wsX10_within := goodIn_r _ [6] (by decide +kernel) (by decide +kernel)
set_option maxRecDepth 20000 in
theorem gX10_write_X10_within : GoodIn wsX10_write (va_wsS RX10 64 yX10_within wsX10_within) := goodIn_app (goodIn_of _ (by decide +kernel)) ggX10_write_X10_within
set_option maxRecDepth 20000 in
theorem ggX10_write_X6_append : GoodIn wsX10_write wsX6_append := goodIn_r _ [11, 12, 13, 23, 24, 25, 26, 27, 28, 29, 30, 31, 32] (by decide +kernel) (by decide +kernel)
set_option maxRecDepth 20000 in
theorem gX10_write_X6_append : GoodIn wsX10_write (wsV RX10 68 RX6 yX6_append wsX6_append) := goodIn_app (goodIn_of _ (by decide +kernel)) ggX10_write_X6_append
theorem dX10_write_0 : decode cX10_write 0 = .ok (.iload_n 1, 1) := by decide +kernel
theorem dX10_write_1 : decode cX10_write 1 = .ok (.iconst 0, 1) := by decide +kernel
theorem dX10_write_2 : decode cX10_write 2 = .ok (.sipush 255, 3) := by decide +kernel
theorem dX10_write_5 : decode cX10_write 5 = .ok (.invokestatic 64, 3) := by decide +kernel
theorem dX10_write_8 : decode cX10_write 8 = .ok (.ifCond .ne 6, 3) := by decide +kernel
theorem dX10_write_11 : decode cX10_write 11 = .ok (.bipush (-3), 2) := by decide +kernel
theorem dX10_write_13 : decode cX10_write 13 = .ok (.ireturn, 1) := by decide +kernel
theorem dX10_write_14 : decode cX10_write 14 = .ok (.aload_n 0, 1) := by decide +kernel
theorem dX10_write_15 : decode cX10_write 15 = .ok (.getfield 10, 3) := by decide +kernel
theorem dX10_write_18 : decode cX10_write 18 = .ok (.iload_n 1, 1) := by decide +kernel
theorem dX10_write_19 : decode cX10_write 19 = .ok (.invokevirtual 68, 3) := by decide +kernel
theorem dX10_write_22 : decode cX10_write 22 = .ok (.ifCond .eq 13, 3) := by decide +kernel
theorem dX10_write_25 : decode cX10_write 25 = .ok (.aload_n 0, 1) := by decide +kernel
theorem dX10_write_26 : decode cX10_write 26 = .ok (.getfield 10, 3) := by decide +kernel
theorem dX10_write_29 : decode cX10_write 29 = .ok (.getfield 72, 3) := by decide +kernel
theorem dX10_write_32 : decode cX10_write 32 = .ok (.goto 5, 3) := by decide +kernel
theorem dX10_write_35 : decode cX10_write 35 = .ok (.bipush (-5), 2) := by decide +kernel
theorem dX10_write_37 : decode cX10_write 37 = .ok (.ireturn, 1) := by decide +kernel
theorem dX10_erase_0 : decode cX10_erase 0 = .ok (.aload_n 0, 1) := by decide +kernel
theorem dX10_erase_1 : decode cX10_erase 1 = .ok (.getfield 10, 3) := by decide +kernel
theorem dX10_erase_4 : decode cX10_erase 4 = .ok (.getfield 72, 3) := by decide +kernel
theorem dX10_erase_7 : decode cX10_erase 7 = .ok (.istore_n 1, 1) := by decide +kernel
theorem dX10_erase_8 : decode cX10_erase 8 = .ok (.aload_n 0, 1) := by decide +kernel
theorem dX10_erase_9 : decode cX10_erase 9 = .ok (.getfield 10, 3) := by decide +kernel
theorem dX10_erase_12 : decode cX10_erase 12 = .ok (.iconst 0, 1) := by decide +kernel
theorem dX10_erase_13 : decode cX10_erase 13 = .ok (.putfield 72, 3) := by decide +kernel
theorem dX10_erase_16 : decode cX10_erase 16 = .ok (.iload_n 1, 1) := by decide +kernel
theorem dX10_erase_17 : decode cX10_erase 17 = .ok (.ireturn, 1) := by decide +kernel
set_option maxRecDepth 20000 in
theorem ggX10_fault_X6_readOver : GoodIn wsX10_fault wsX6_readOver := goodIn_r _ [7, 8, 9, 10, 11, 12, 13, 14, 15, 16, 17, 18, 19, 20, 21, 6, 22, 23, 24, 25, 26, 27, 28, 29, 30, 31, 32, 33, 34, 35, 36, 37, 38, 39, 40, 41, 42, 43, 44, 45, 46, 47, 48, 49, 50, 51, 52, 53, 54, 55, 56, 57, 58, 59, 60, 61, 62, 63, 64, 65, 66, 67, 68, 69, 70, 71, 72, 73, 74, 75, 76, 77, 78, 79, 80, 81, 82, 83, 84, 85, 86, 87, 88, 89, 90, 91, 92, 93, 94, 95, 96, 97, 98, 99, 100, 101, 102, 103, 104, 105, 106, 107, 108, 109, 110, 111, 112, 113, 114, 115, 116, 117, 118, 128, 129, 130, 131, 132, 133, 134, 135, 136, 137, 138, 139, 140, 141, 142, 143, 144, 145, 146, 147, 148, 149] (by decide +kernel) (by decide +kernel)
set_option maxRecDepth 20000 in
theorem gX10_fault_X6_readOver : GoodIn wsX10_fault (wsV RX10 76 RX6 yX6_readOver wsX6_readOver) := goodIn_app (goodIn_of _ (by decide +kernel)) ggX10_fault_X6_readOver
theorem dX10_fault_0 : decode cX10_fault 0 = .ok (.aload_n 0, 1) := by decide +kernel
theorem dX10_fault_1 : decode cX10_fault 1 = .ok (.getfield 10, 3) := by decide +kernel
theorem dX10_fault_4 : decode cX10_fault 4 = .ok (.aload_n 0, 1) := by decide +kernel
theorem dX10_fault_5 : decode cX10_fault 5 = .ok (.getfield 19, 3) := by decide +kernel
theorem dX10_fault_8 : decode cX10_fault 8 = .ok (.invokevirtual 76, 3) := by decide +kernel
theorem dX10_fault_11 : decode cX10_fault 11 = .ok (.ireturn, 1) := by decide +kernel
set_option maxRecDepth 20000 in
theorem ggX10_land_X6_readOver : GoodIn wsX10_land wsX6_readOver := goodIn_r _ [14, 15, 16, 17, 18, 19, 20, 21, 22, 23, 24, 25, 26, 27, 28, 13, 29, 30, 31, 32, 33, 34, 35, 36, 37, 38, 39, 40, 41, 42, 43, 44, 45, 46, 47, 48, 49, 50, 51, 52, 53, 54, 55, 56, 57, 58, 59, 60, 61, 62, 63, 64, 65, 66, 67, 68, 69, 70, 71, 72, 73, 74, 75, 76, 77, 78, 79, 80, 81, 82, 83, 84, 85, 86, 87, 88, 89, 90, 91, 92, 93, 94, 95, 96, 97, 98, 99, 100, 101, 102, 103, 104, 105, 106, 107, 108, 109, 110, 111, 112, 113, 114, 115, 116, 117, 118, 119, 120, 121, 122, 123, 124, 125, 209, 210, 211, 212, 213, 214, 215, 216, 217, 218, 219, 220, 193, 194, 195, 196, 197, 198, 199, 200, 201, 202] (by decide +kernel) (by decide +kernel)
set_option maxRecDepth 20000 in
theorem gX10_land_X6_readOver : GoodIn wsX10_land (wsV RX10 76 RX6 yX6_readOver wsX6_readOver) := goodIn_app (goodIn_of _ (by decide +kernel)) ggX10_land_X6_readOver
set_option maxRecDepth 20000 in
theorem ggX10_land_X6_tellTo : GoodIn wsX10_land wsX6_tellTo := goodIn_r _ [129, 21, 40, 114, 130, 131, 132, 133, 134, 135, 136, 137, 138, 139, 140, 141, 142, 143, 144, 145, 146, 147, 148, 149, 150, 151, 152, 153, 154, 155, 156, 157, 158, 159, 193, 194, 195, 196, 197, 198, 199, 200, 201, 202, 209, 210, 211, 212, 213, 214, 215, 216, 217, 218, 219, 220] (by decide +kernel) (by decide +kernel)
set_option maxRecDepth 20000 in
theorem gX10_land_X6_tellTo : GoodIn wsX10_land (wsV RX10 83 RX6 yX6_tellTo wsX6_tellTo) := goodIn_app (goodIn_of _ (by decide +kernel)) ggX10_land_X6_tellTo
set_option maxRecDepth 20000 in
theorem ggX10_land_X0_begin : GoodIn wsX10_land wsX0_begin := goodIn_r _ [164, 165, 166, 167, 168, 169, 170, 171, 172, 173, 174, 175, 176, 177, 178, 179, 180, 181, 182, 183, 221, 222, 223, 224, 225, 226, 227, 228, 229, 230, 231, 209, 210, 211, 212, 213, 214, 215, 216, 217, 218, 219, 220] (by decide +kernel) (by decide +kernel)
set_option maxRecDepth 20000 in
theorem gX10_land_X0_begin : GoodIn wsX10_land (wsV RX10 87 RX0 yX0_begin wsX0_begin) := goodIn_app (goodIn_of _ (by decide +kernel)) ggX10_land_X0_begin
theorem dX10_land_0 : decode cX10_land 0 = .ok (.aload_n 0, 1) := by decide +kernel
theorem dX10_land_1 : decode cX10_land 1 = .ok (.getfield 10, 3) := by decide +kernel
theorem dX10_land_4 : decode cX10_land 4 = .ok (.aload_n 0, 1) := by decide +kernel
theorem dX10_land_5 : decode cX10_land 5 = .ok (.getfield 19, 3) := by decide +kernel
theorem dX10_land_8 : decode cX10_land 8 = .ok (.invokevirtual 76, 3) := by decide +kernel
theorem dX10_land_11 : decode cX10_land 11 = .ok (.iconst (-1), 1) := by decide +kernel
theorem dX10_land_12 : decode cX10_land 12 = .ok (.if_icmp .eq 6, 3) := by decide +kernel
theorem dX10_land_15 : decode cX10_land 15 = .ok (.bipush (-4), 2) := by decide +kernel
theorem dX10_land_17 : decode cX10_land 17 = .ok (.ireturn, 1) := by decide +kernel
theorem dX10_land_18 : decode cX10_land 18 = .ok (.aload_n 0, 1) := by decide +kernel
theorem dX10_land_19 : decode cX10_land 19 = .ok (.getfield 10, 3) := by decide +kernel
theorem dX10_land_22 : decode cX10_land 22 = .ok (.getfield 80, 3) := by decide +kernel
theorem dX10_land_25 : decode cX10_land 25 = .ok (.istore_n 1, 1) := by decide +kernel
theorem dX10_land_26 : decode cX10_land 26 = .ok (.aload_n 0, 1) := by decide +kernel
theorem dX10_land_27 : decode cX10_land 27 = .ok (.getfield 10, 3) := by decide +kernel
theorem dX10_land_30 : decode cX10_land 30 = .ok (.aload_n 0, 1) := by decide +kernel
theorem dX10_land_31 : decode cX10_land 31 = .ok (.getfield 19, 3) := by decide +kernel
theorem dX10_land_34 : decode cX10_land 34 = .ok (.invokevirtual 83, 3) := by decide +kernel
theorem dX10_land_37 : decode cX10_land 37 = .ok (.aload_n 0, 1) := by decide +kernel
theorem dX10_land_38 : decode cX10_land 38 = .ok (.getfield 10, 3) := by decide +kernel
theorem dX10_land_41 : decode cX10_land 41 = .ok (.iconst 0, 1) := by decide +kernel
theorem dX10_land_42 : decode cX10_land 42 = .ok (.putfield 72, 3) := by decide +kernel
theorem dX10_land_45 : decode cX10_land 45 = .ok (.aload_n 0, 1) := by decide +kernel
theorem dX10_land_46 : decode cX10_land 46 = .ok (.getfield 26, 3) := by decide +kernel
theorem dX10_land_49 : decode cX10_land 49 = .ok (.aload_n 0, 1) := by decide +kernel
theorem dX10_land_50 : decode cX10_land 50 = .ok (.getfield 19, 3) := by decide +kernel
theorem dX10_land_53 : decode cX10_land 53 = .ok (.invokevirtual 87, 3) := by decide +kernel
theorem dX10_land_56 : decode cX10_land 56 = .ok (.aload_n 0, 1) := by decide +kernel
theorem dX10_land_57 : decode cX10_land 57 = .ok (.getfield 33, 3) := by decide +kernel
theorem dX10_land_60 : decode cX10_land 60 = .ok (.iconst 0, 1) := by decide +kernel
theorem dX10_land_61 : decode cX10_land 61 = .ok (.putfield 90, 3) := by decide +kernel
theorem dX10_land_64 : decode cX10_land 64 = .ok (.aload_n 0, 1) := by decide +kernel
theorem dX10_land_65 : decode cX10_land 65 = .ok (.getfield 40, 3) := by decide +kernel
theorem dX10_land_68 : decode cX10_land 68 = .ok (.iconst 0, 1) := by decide +kernel
theorem dX10_land_69 : decode cX10_land 69 = .ok (.putfield 93, 3) := by decide +kernel
theorem dX10_land_72 : decode cX10_land 72 = .ok (.iload_n 1, 1) := by decide +kernel
theorem dX10_land_73 : decode cX10_land 73 = .ok (.ireturn, 1) := by decide +kernel
set_option maxRecDepth 20000 in
theorem ggX10_place_X1_hasPlace : GoodIn wsX10_place wsX1_hasPlace := goodIn_r _ [11, 12, 39, 40, 41, 42, 43, 44, 45, 46, 47, 48, 49, 50] (by decide +kernel) (by decide +kernel)
set_option maxRecDepth 20000 in
theorem gX10_place_X1_hasPlace : GoodIn wsX10_place (wsV RX10 94 RX1 yX1_hasPlace wsX1_hasPlace) := goodIn_app (goodIn_of _ (by decide +kernel)) ggX10_place_X1_hasPlace
set_option maxRecDepth 20000 in
theorem ggX10_place_X1_roadsAt : GoodIn wsX10_place wsX1_roadsAt := goodIn_r _ [16, 17, 18, 19, 20, 10, 21, 22, 23, 39, 40, 41, 42, 43, 44, 45, 46, 47, 48, 49, 50] (by decide +kernel) (by decide +kernel)
set_option maxRecDepth 20000 in
theorem gX10_place_X1_roadsAt : GoodIn wsX10_place (wsV RX10 110 RX1 yX1_roadsAt wsX1_roadsAt) := goodIn_app (goodIn_of _ (by decide +kernel)) ggX10_place_X1_roadsAt
set_option maxRecDepth 20000 in
theorem ggX10_place_X7_cartsIn : GoodIn wsX10_place wsX7_cartsIn := goodIn_r _ [28, 29, 57, 58, 59, 60, 61] (by decide +kernel) (by decide +kernel)
set_option maxRecDepth 20000 in
theorem gX10_place_X7_cartsIn : GoodIn wsX10_place (wsV RX10 117 RX7 yX7_cartsIn wsX7_cartsIn) := goodIn_app (goodIn_of _ (by decide +kernel)) ggX10_place_X7_cartsIn
theorem dX10_place_0 : decode cX10_place 0 = .ok (.aload_n 0, 1) := by decide +kernel
theorem dX10_place_1 : decode cX10_place 1 = .ok (.getfield 19, 3) := by decide +kernel
theorem dX10_place_4 : decode cX10_place 4 = .ok (.iload_n 1, 1) := by decide +kernel
theorem dX10_place_5 : decode cX10_place 5 = .ok (.invokevirtual 94, 3) := by decide +kernel
theorem dX10_place_8 : decode cX10_place 8 = .ok (.ifCond .ne 6, 3) := by decide +kernel
theorem dX10_place_11 : decode cX10_place 11 = .ok (.bipush (-2), 2) := by decide +kernel
theorem dX10_place_13 : decode cX10_place 13 = .ok (.ireturn, 1) := by decide +kernel
theorem dX10_place_14 : decode cX10_place 14 = .ok (.iload_n 2, 1) := by decide +kernel
theorem dX10_place_15 : decode cX10_place 15 = .ok (.tableswitch 80 0 3 #[29, 39, 52, 61], 29) := by decide +kernel
theorem dX10_place_44 : decode cX10_place 44 = .ok (.aload_n 0, 1) := by decide +kernel
theorem dX10_place_45 : decode cX10_place 45 = .ok (.getfield 19, 3) := by decide +kernel
theorem dX10_place_48 : decode cX10_place 48 = .ok (.getfield 97, 3) := by decide +kernel
theorem dX10_place_51 : decode cX10_place 51 = .ok (.iload_n 1, 1) := by decide +kernel
theorem dX10_place_52 : decode cX10_place 52 = .ok (.iaload, 1) := by decide +kernel
theorem dX10_place_53 : decode cX10_place 53 = .ok (.ireturn, 1) := by decide +kernel
theorem dX10_place_54 : decode cX10_place 54 = .ok (.aload_n 0, 1) := by decide +kernel
theorem dX10_place_55 : decode cX10_place 55 = .ok (.getfield 26, 3) := by decide +kernel
theorem dX10_place_58 : decode cX10_place 58 = .ok (.getfield 101, 3) := by decide +kernel
theorem dX10_place_61 : decode cX10_place 61 = .ok (.getfield 105, 3) := by decide +kernel
theorem dX10_place_64 : decode cX10_place 64 = .ok (.iload_n 1, 1) := by decide +kernel
theorem dX10_place_65 : decode cX10_place 65 = .ok (.iaload, 1) := by decide +kernel
theorem dX10_place_66 : decode cX10_place 66 = .ok (.ireturn, 1) := by decide +kernel
theorem dX10_place_67 : decode cX10_place 67 = .ok (.aload_n 0, 1) := by decide +kernel
theorem dX10_place_68 : decode cX10_place 68 = .ok (.getfield 19, 3) := by decide +kernel
theorem dX10_place_71 : decode cX10_place 71 = .ok (.iload_n 1, 1) := by decide +kernel
theorem dX10_place_72 : decode cX10_place 72 = .ok (.invokevirtual 110, 3) := by decide +kernel
theorem dX10_place_75 : decode cX10_place 75 = .ok (.ireturn, 1) := by decide +kernel
theorem dX10_place_76 : decode cX10_place 76 = .ok (.aload_n 0, 1) := by decide +kernel
theorem dX10_place_77 : decode cX10_place 77 = .ok (.getfield 26, 3) := by decide +kernel
theorem dX10_place_80 : decode cX10_place 80 = .ok (.getfield 101, 3) := by decide +kernel
theorem dX10_place_83 : decode cX10_place 83 = .ok (.iload_n 1, 1) := by decide +kernel
theorem dX10_place_84 : decode cX10_place 84 = .ok (.aload_n 0, 1) := by decide +kernel
theorem dX10_place_85 : decode cX10_place 85 = .ok (.getfield 19, 3) := by decide +kernel
theorem dX10_place_88 : decode cX10_place 88 = .ok (.getfield 114, 3) := by decide +kernel
theorem dX10_place_91 : decode cX10_place 91 = .ok (.invokevirtual 117, 3) := by decide +kernel
theorem dX10_place_94 : decode cX10_place 94 = .ok (.ireturn, 1) := by decide +kernel
theorem dX10_place_95 : decode cX10_place 95 = .ok (.bipush (-3), 2) := by decide +kernel
theorem dX10_place_97 : decode cX10_place 97 = .ok (.ireturn, 1) := by decide +kernel
set_option maxRecDepth 20000 in
theorem ggX10_road_X1_hasRoad : GoodIn wsX10_road wsX1_hasRoad := goodIn_r _ [10, 11, 21, 22, 23, 24, 25, 26, 27, 28, 29, 30, 31, 32] (by decide +kernel) (by decide +kernel)
set_option maxRecDepth 20000 in
theorem gX10_road_X1_hasRoad : GoodIn wsX10_road (wsV RX10 121 RX1 yX1_hasRoad wsX1_hasRoad) := goodIn_app (goodIn_of _ (by decide +kernel)) ggX10_road_X1_hasRoad
theorem dX10_road_0 : decode cX10_road 0 = .ok (.aload_n 0, 1) := by decide +kernel
theorem dX10_road_1 : decode cX10_road 1 = .ok (.getfield 19, 3) := by decide +kernel
theorem dX10_road_4 : decode cX10_road 4 = .ok (.iload_n 1, 1) := by decide +kernel
theorem dX10_road_5 : decode cX10_road 5 = .ok (.invokevirtual 121, 3) := by decide +kernel
theorem dX10_road_8 : decode cX10_road 8 = .ok (.ifCond .ne 6, 3) := by decide +kernel
theorem dX10_road_11 : decode cX10_road 11 = .ok (.bipush (-2), 2) := by decide +kernel
theorem dX10_road_13 : decode cX10_road 13 = .ok (.ireturn, 1) := by decide +kernel
theorem dX10_road_14 : decode cX10_road 14 = .ok (.iload_n 2, 1) := by decide +kernel
theorem dX10_road_15 : decode cX10_road 15 = .ok (.tableswitch 69 0 3 #[29, 39, 49, 59], 29) := by decide +kernel
theorem dX10_road_44 : decode cX10_road 44 = .ok (.aload_n 0, 1) := by decide +kernel
theorem dX10_road_45 : decode cX10_road 45 = .ok (.getfield 19, 3) := by decide +kernel
theorem dX10_road_48 : decode cX10_road 48 = .ok (.getfield 124, 3) := by decide +kernel
theorem dX10_road_51 : decode cX10_road 51 = .ok (.iload_n 1, 1) := by decide +kernel
theorem dX10_road_52 : decode cX10_road 52 = .ok (.iaload, 1) := by decide +kernel
theorem dX10_road_53 : decode cX10_road 53 = .ok (.ireturn, 1) := by decide +kernel
theorem dX10_road_54 : decode cX10_road 54 = .ok (.aload_n 0, 1) := by decide +kernel
theorem dX10_road_55 : decode cX10_road 55 = .ok (.getfield 19, 3) := by decide +kernel
theorem dX10_road_58 : decode cX10_road 58 = .ok (.getfield 127, 3) := by decide +kernel
theorem dX10_road_61 : decode cX10_road 61 = .ok (.iload_n 1, 1) := by decide +kernel
theorem dX10_road_62 : decode cX10_road 62 = .ok (.iaload, 1) := by decide +kernel
theorem dX10_road_63 : decode cX10_road 63 = .ok (.ireturn, 1) := by decide +kernel
theorem dX10_road_64 : decode cX10_road 64 = .ok (.aload_n 0, 1) := by decide +kernel
theorem dX10_road_65 : decode cX10_road 65 = .ok (.getfield 19, 3) := by decide +kernel
theorem dX10_road_68 : decode cX10_road 68 = .ok (.getfield 130, 3) := by decide +kernel
theorem dX10_road_71 : decode cX10_road 71 = .ok (.iload_n 1, 1) := by decide +kernel
theorem dX10_road_72 : decode cX10_road 72 = .ok (.iaload, 1) := by decide +kernel
theorem dX10_road_73 : decode cX10_road 73 = .ok (.ireturn, 1) := by decide +kernel
theorem dX10_road_74 : decode cX10_road 74 = .ok (.aload_n 0, 1) := by decide +kernel
theorem dX10_road_75 : decode cX10_road 75 = .ok (.getfield 19, 3) := by decide +kernel
theorem dX10_road_78 : decode cX10_road 78 = .ok (.getfield 133, 3) := by decide +kernel
theorem dX10_road_81 : decode cX10_road 81 = .ok (.iload_n 1, 1) := by decide +kernel
theorem dX10_road_82 : decode cX10_road 82 = .ok (.iaload, 1) := by decide +kernel
theorem dX10_road_83 : decode cX10_road 83 = .ok (.ireturn, 1) := by decide +kernel
theorem dX10_road_84 : decode cX10_road 84 = .ok (.bipush (-3), 2) := by decide +kernel
theorem dX10_road_86 : decode cX10_road 86 = .ok (.ireturn, 1) := by decide +kernel
set_option maxRecDepth 20000 in
theorem ggX10_cart_X1_hasCart : GoodIn wsX10_cart wsX1_hasCart := goodIn_r _ [13, 14, 24, 25, 26, 27, 28, 29, 30, 31, 32, 33, 34, 35] (by decide +kernel) (by decide +kernel)
set_option maxRecDepth 20000 in
theorem gX10_cart_X1_hasCart : GoodIn wsX10_cart (wsV RX10 136 RX1 yX1_hasCart wsX1_hasCart) := goodIn_app (goodIn_of _ (by decide +kernel)) ggX10_cart_X1_hasCart
theorem dX10_cart_0 : decode cX10_cart 0 = .ok (.aload_n 0, 1) := by decide +kernel
theorem dX10_cart_1 : decode cX10_cart 1 = .ok (.getfield 19, 3) := by decide +kernel
theorem dX10_cart_4 : decode cX10_cart 4 = .ok (.iload_n 1, 1) := by decide +kernel
theorem dX10_cart_5 : decode cX10_cart 5 = .ok (.invokevirtual 136, 3) := by decide +kernel
theorem dX10_cart_8 : decode cX10_cart 8 = .ok (.ifCond .ne 6, 3) := by decide +kernel
theorem dX10_cart_11 : decode cX10_cart 11 = .ok (.bipush (-2), 2) := by decide +kernel
theorem dX10_cart_13 : decode cX10_cart 13 = .ok (.ireturn, 1) := by decide +kernel
theorem dX10_cart_14 : decode cX10_cart 14 = .ok (.iload_n 2, 1) := by decide +kernel
theorem dX10_cart_15 : decode cX10_cart 15 = .ok (.tableswitch 92 0 4 #[33, 43, 53, 66, 79], 33) := by decide +kernel
theorem dX10_cart_48 : decode cX10_cart 48 = .ok (.aload_n 0, 1) := by decide +kernel
theorem dX10_cart_49 : decode cX10_cart 49 = .ok (.getfield 19, 3) := by decide +kernel
theorem dX10_cart_52 : decode cX10_cart 52 = .ok (.getfield 139, 3) := by decide +kernel
theorem dX10_cart_55 : decode cX10_cart 55 = .ok (.iload_n 1, 1) := by decide +kernel
theorem dX10_cart_56 : decode cX10_cart 56 = .ok (.iaload, 1) := by decide +kernel
theorem dX10_cart_57 : decode cX10_cart 57 = .ok (.ireturn, 1) := by decide +kernel
theorem dX10_cart_58 : decode cX10_cart 58 = .ok (.aload_n 0, 1) := by decide +kernel
theorem dX10_cart_59 : decode cX10_cart 59 = .ok (.getfield 19, 3) := by decide +kernel
theorem dX10_cart_62 : decode cX10_cart 62 = .ok (.getfield 142, 3) := by decide +kernel
theorem dX10_cart_65 : decode cX10_cart 65 = .ok (.iload_n 1, 1) := by decide +kernel
theorem dX10_cart_66 : decode cX10_cart 66 = .ok (.iaload, 1) := by decide +kernel
theorem dX10_cart_67 : decode cX10_cart 67 = .ok (.ireturn, 1) := by decide +kernel
theorem dX10_cart_68 : decode cX10_cart 68 = .ok (.aload_n 0, 1) := by decide +kernel
theorem dX10_cart_69 : decode cX10_cart 69 = .ok (.getfield 26, 3) := by decide +kernel
theorem dX10_cart_72 : decode cX10_cart 72 = .ok (.getfield 101, 3) := by decide +kernel
theorem dX10_cart_75 : decode cX10_cart 75 = .ok (.getfield 145, 3) := by decide +kernel
theorem dX10_cart_78 : decode cX10_cart 78 = .ok (.iload_n 1, 1) := by decide +kernel
theorem dX10_cart_79 : decode cX10_cart 79 = .ok (.iaload, 1) := by decide +kernel
theorem dX10_cart_80 : decode cX10_cart 80 = .ok (.ireturn, 1) := by decide +kernel
theorem dX10_cart_81 : decode cX10_cart 81 = .ok (.aload_n 0, 1) := by decide +kernel
theorem dX10_cart_82 : decode cX10_cart 82 = .ok (.getfield 26, 3) := by decide +kernel
theorem dX10_cart_85 : decode cX10_cart 85 = .ok (.getfield 101, 3) := by decide +kernel
theorem dX10_cart_88 : decode cX10_cart 88 = .ok (.getfield 148, 3) := by decide +kernel
theorem dX10_cart_91 : decode cX10_cart 91 = .ok (.iload_n 1, 1) := by decide +kernel
theorem dX10_cart_92 : decode cX10_cart 92 = .ok (.iaload, 1) := by decide +kernel
theorem dX10_cart_93 : decode cX10_cart 93 = .ok (.ireturn, 1) := by decide +kernel
theorem dX10_cart_94 : decode cX10_cart 94 = .ok (.aload_n 0, 1) := by decide +kernel
theorem dX10_cart_95 : decode cX10_cart 95 = .ok (.getfield 26, 3) := by decide +kernel
theorem dX10_cart_98 : decode cX10_cart 98 = .ok (.getfield 101, 3) := by decide +kernel
theorem dX10_cart_101 : decode cX10_cart 101 = .ok (.getfield 151, 3) := by decide +kernel
theorem dX10_cart_104 : decode cX10_cart 104 = .ok (.iload_n 1, 1) := by decide +kernel
theorem dX10_cart_105 : decode cX10_cart 105 = .ok (.iaload, 1) := by decide +kernel
theorem dX10_cart_106 : decode cX10_cart 106 = .ok (.ireturn, 1) := by decide +kernel
theorem dX10_cart_107 : decode cX10_cart 107 = .ok (.bipush (-3), 2) := by decide +kernel
theorem dX10_cart_109 : decode cX10_cart 109 = .ok (.ireturn, 1) := by decide +kernel
set_option maxRecDepth 20000 in
theorem ggX10_as_X1_hasCart : GoodIn wsX10_as wsX1_hasCart := goodIn_r _ [9, 10, 71, 72, 73, 74, 75, 76, 77, 78, 79, 80, 81, 82] (by decide +kernel) (by decide +kernel)
set_option maxRecDepth 20000 in
theorem gX10_as_X1_hasCart : GoodIn wsX10_as (wsV RX10 136 RX1 yX1_hasCart wsX1_hasCart) := goodIn_app (goodIn_of _ (by decide +kernel)) ggX10_as_X1_hasCart
set_option maxRecDepth 20000 in
theorem ggX10_as_X10_within : GoodIn wsX10_as wsX10_within := goodIn_r _ [14] (by decide +kernel) (by decide +kernel)
set_option maxRecDepth 20000 in
theorem gX10_as_X10_within : GoodIn wsX10_as (va_wsS RX10 64 yX10_within wsX10_within) := goodIn_app (goodIn_of _ (by decide +kernel)) ggX10_as_X10_within
set_option maxRecDepth 20000 in
theorem ggX10_as_X1_cartIs : GoodIn wsX10_as wsX1_cartIs := goodIn_r _ [18, 19, 71, 72, 73, 74, 75, 76, 77, 78, 79, 80, 81, 82] (by decide +kernel) (by decide +kernel)
set_option maxRecDepth 20000 in
theorem gX10_as_X1_cartIs : GoodIn wsX10_as (wsV RX10 154 RX1 yX1_cartIs wsX1_cartIs) := goodIn_app (goodIn_of _ (by decide +kernel)) ggX10_as_X1_cartIs
set_option maxRecDepth 20000 in
theorem ggX10_as_X10_afterResting : GoodIn wsX10_as wsX10_afterResting := goodIn_r _ [23, 2, 3, 4, 1, 24, 25, 26, 27, 28, 29, 30, 8, 31, 32, 33, 34, 35, 36, 37, 38, 39, 40, 41, 42, 43, 44, 45, 46, 47, 48, 49, 50, 51, 52, 53, 54, 55, 56, 57, 58, 59, 60, 61, 62, 63, 64, 65, 66, 67, 68, 69, 70, 71, 72, 73, 74, 75, 76, 77, 78, 79, 80, 81, 82] (by decide +kernel) (by decide +kernel)
set_option maxRecDepth 20000 in
theorem gX10_as_X10_afterResting : GoodIn wsX10_as (wsV RX10 158 RX10 yX10_afterResting wsX10_afterResting) := goodIn_app (goodIn_of _ (by decide +kernel)) ggX10_as_X10_afterResting
theorem dX10_as_0 : decode cX10_as 0 = .ok (.aload_n 0, 1) := by decide +kernel
theorem dX10_as_1 : decode cX10_as 1 = .ok (.getfield 19, 3) := by decide +kernel
theorem dX10_as_4 : decode cX10_as 4 = .ok (.iload_n 1, 1) := by decide +kernel
theorem dX10_as_5 : decode cX10_as 5 = .ok (.invokevirtual 136, 3) := by decide +kernel
theorem dX10_as_8 : decode cX10_as 8 = .ok (.ifCond .ne 6, 3) := by decide +kernel
theorem dX10_as_11 : decode cX10_as 11 = .ok (.bipush (-2), 2) := by decide +kernel
theorem dX10_as_13 : decode cX10_as 13 = .ok (.ireturn, 1) := by decide +kernel
theorem dX10_as_14 : decode cX10_as 14 = .ok (.iload_n 2, 1) := by decide +kernel
theorem dX10_as_15 : decode cX10_as 15 = .ok (.iconst 0, 1) := by decide +kernel
theorem dX10_as_16 : decode cX10_as 16 = .ok (.iconst 3, 1) := by decide +kernel
theorem dX10_as_17 : decode cX10_as 17 = .ok (.invokestatic 64, 3) := by decide +kernel
theorem dX10_as_20 : decode cX10_as 20 = .ok (.ifCond .ne 6, 3) := by decide +kernel
theorem dX10_as_23 : decode cX10_as 23 = .ok (.bipush (-3), 2) := by decide +kernel
theorem dX10_as_25 : decode cX10_as 25 = .ok (.ireturn, 1) := by decide +kernel
theorem dX10_as_26 : decode cX10_as 26 = .ok (.aload_n 0, 1) := by decide +kernel
theorem dX10_as_27 : decode cX10_as 27 = .ok (.getfield 19, 3) := by decide +kernel
theorem dX10_as_30 : decode cX10_as 30 = .ok (.iload_n 1, 1) := by decide +kernel
theorem dX10_as_31 : decode cX10_as 31 = .ok (.iload_n 2, 1) := by decide +kernel
theorem dX10_as_32 : decode cX10_as 32 = .ok (.invokevirtual 154, 3) := by decide +kernel
theorem dX10_as_35 : decode cX10_as 35 = .ok (.ifCond .ne 6, 3) := by decide +kernel
theorem dX10_as_38 : decode cX10_as 38 = .ok (.bipush (-4), 2) := by decide +kernel
theorem dX10_as_40 : decode cX10_as 40 = .ok (.ireturn, 1) := by decide +kernel
theorem dX10_as_41 : decode cX10_as 41 = .ok (.aload_n 0, 1) := by decide +kernel
theorem dX10_as_42 : decode cX10_as 42 = .ok (.getfield 26, 3) := by decide +kernel
theorem dX10_as_45 : decode cX10_as 45 = .ok (.getfield 101, 3) := by decide +kernel
theorem dX10_as_48 : decode cX10_as 48 = .ok (.getfield 151, 3) := by decide +kernel
theorem dX10_as_51 : decode cX10_as 51 = .ok (.iload_n 1, 1) := by decide +kernel
theorem dX10_as_52 : decode cX10_as 52 = .ok (.iaload, 1) := by decide +kernel
theorem dX10_as_53 : decode cX10_as 53 = .ok (.istore_n 3, 1) := by decide +kernel
theorem dX10_as_54 : decode cX10_as 54 = .ok (.iload_n 3, 1) := by decide +kernel
theorem dX10_as_55 : decode cX10_as 55 = .ok (.aload_n 0, 1) := by decide +kernel
theorem dX10_as_56 : decode cX10_as 56 = .ok (.iload_n 1, 1) := by decide +kernel
theorem dX10_as_57 : decode cX10_as 57 = .ok (.iconst 1, 1) := by decide +kernel
theorem dX10_as_58 : decode cX10_as 58 = .ok (.invokevirtual 158, 3) := by decide +kernel
theorem dX10_as_61 : decode cX10_as 61 = .ok (.isub, 1) := by decide +kernel
theorem dX10_as_62 : decode cX10_as 62 = .ok (.ireturn, 1) := by decide +kernel
set_option maxRecDepth 20000 in
theorem ggX10_roadAs_X1_hasRoad : GoodIn wsX10_roadAs wsX1_hasRoad := goodIn_r _ [6, 7, 49, 50, 51, 52, 53, 54, 55, 56, 57, 58, 59, 60] (by decide +kernel) (by decide +kernel)
set_option maxRecDepth 20000 in
theorem gX10_roadAs_X1_hasRoad : GoodIn wsX10_roadAs (wsV RX10 121 RX1 yX1_hasRoad wsX1_hasRoad) := goodIn_app (goodIn_of _ (by decide +kernel)) ggX10_roadAs_X1_hasRoad
set_option maxRecDepth 20000 in
theorem ggX10_roadAs_X10_within : GoodIn wsX10_roadAs wsX10_within := goodIn_r _ [11] (by decide +kernel) (by decide +kernel)
set_option maxRecDepth 20000 in
theorem gX10_roadAs_X10_within : GoodIn wsX10_roadAs (va_wsS RX10 64 yX10_within wsX10_within) := goodIn_app (goodIn_of _ (by decide +kernel)) ggX10_roadAs_X10_within
set_option maxRecDepth 20000 in
theorem ggX10_roadAs_X1_roadIs : GoodIn wsX10_roadAs wsX1_roadIs := goodIn_r _ [15, 16, 49, 50, 51, 52, 53, 54, 55, 56, 57, 58, 59, 60] (by decide +kernel) (by decide +kernel)
set_option maxRecDepth 20000 in
theorem gX10_roadAs_X1_roadIs : GoodIn wsX10_roadAs (wsV RX10 161 RX1 yX1_roadIs wsX1_roadIs) := goodIn_app (goodIn_of _ (by decide +kernel)) ggX10_roadAs_X1_roadIs
set_option maxRecDepth 20000 in
theorem ggX10_roadAs_X1_afterRoad : GoodIn wsX10_roadAs wsX1_afterRoad := goodIn_r _ [20, 16, 21, 22, 23, 24, 25, 26, 27, 28, 29, 30, 31, 32, 33, 34, 35, 36, 37, 38, 39, 49, 50, 51, 52, 53, 54, 55, 56, 57, 58, 59, 60] (by decide +kernel) (by decide +kernel)
set_option maxRecDepth 20000 in
theorem gX10_roadAs_X1_afterRoad : GoodIn wsX10_roadAs (wsV RX10 164 RX1 yX1_afterRoad wsX1_afterRoad) := goodIn_app (goodIn_of _ (by decide +kernel)) ggX10_roadAs_X1_afterRoad
theorem dX10_roadAs_0 : decode cX10_roadAs 0 = .ok (.aload_n 0, 1) := by decide +kernel
theorem dX10_roadAs_1 : decode cX10_roadAs 1 = .ok (.getfield 19, 3) := by decide +kernel
theorem dX10_roadAs_4 : decode cX10_roadAs 4 = .ok (.iload_n 1, 1) := by decide +kernel
theorem dX10_roadAs_5 : decode cX10_roadAs 5 = .ok (.invokevirtual 121, 3) := by decide +kernel
theorem dX10_roadAs_8 : decode cX10_roadAs 8 = .ok (.ifCond .ne 6, 3) := by decide +kernel
theorem dX10_roadAs_11 : decode cX10_roadAs 11 = .ok (.bipush (-2), 2) := by decide +kernel
theorem dX10_roadAs_13 : decode cX10_roadAs 13 = .ok (.ireturn, 1) := by decide +kernel
theorem dX10_roadAs_14 : decode cX10_roadAs 14 = .ok (.iload_n 2, 1) := by decide +kernel
theorem dX10_roadAs_15 : decode cX10_roadAs 15 = .ok (.iconst 0, 1) := by decide +kernel
theorem dX10_roadAs_16 : decode cX10_roadAs 16 = .ok (.iconst 3, 1) := by decide +kernel
theorem dX10_roadAs_17 : decode cX10_roadAs 17 = .ok (.invokestatic 64, 3) := by decide +kernel
theorem dX10_roadAs_20 : decode cX10_roadAs 20 = .ok (.ifCond .ne 6, 3) := by decide +kernel
theorem dX10_roadAs_23 : decode cX10_roadAs 23 = .ok (.bipush (-3), 2) := by decide +kernel
theorem dX10_roadAs_25 : decode cX10_roadAs 25 = .ok (.ireturn, 1) := by decide +kernel
theorem dX10_roadAs_26 : decode cX10_roadAs 26 = .ok (.aload_n 0, 1) := by decide +kernel
theorem dX10_roadAs_27 : decode cX10_roadAs 27 = .ok (.getfield 19, 3) := by decide +kernel
theorem dX10_roadAs_30 : decode cX10_roadAs 30 = .ok (.iload_n 1, 1) := by decide +kernel
theorem dX10_roadAs_31 : decode cX10_roadAs 31 = .ok (.iload_n 2, 1) := by decide +kernel
theorem dX10_roadAs_32 : decode cX10_roadAs 32 = .ok (.invokevirtual 161, 3) := by decide +kernel
theorem dX10_roadAs_35 : decode cX10_roadAs 35 = .ok (.ifCond .ne 6, 3) := by decide +kernel
theorem dX10_roadAs_38 : decode cX10_roadAs 38 = .ok (.bipush (-4), 2) := by decide +kernel
theorem dX10_roadAs_40 : decode cX10_roadAs 40 = .ok (.ireturn, 1) := by decide +kernel
theorem dX10_roadAs_41 : decode cX10_roadAs 41 = .ok (.aload_n 0, 1) := by decide +kernel
theorem dX10_roadAs_42 : decode cX10_roadAs 42 = .ok (.getfield 19, 3) := by decide +kernel
theorem dX10_roadAs_45 : decode cX10_roadAs 45 = .ok (.iload_n 1, 1) := by decide +kernel
theorem dX10_roadAs_46 : decode cX10_roadAs 46 = .ok (.bipush 50, 2) := by decide +kernel
theorem dX10_roadAs_48 : decode cX10_roadAs 48 = .ok (.iconst 0, 1) := by decide +kernel
theorem dX10_roadAs_49 : decode cX10_roadAs 49 = .ok (.iconst 0, 1) := by decide +kernel
theorem dX10_roadAs_50 : decode cX10_roadAs 50 = .ok (.iconst 0, 1) := by decide +kernel
theorem dX10_roadAs_51 : decode cX10_roadAs 51 = .ok (.invokevirtual 164, 3) := by decide +kernel
theorem dX10_roadAs_54 : decode cX10_roadAs 54 = .ok (.ireturn, 1) := by decide +kernel
set_option maxRecDepth 20000 in
theorem ggX10_price_X10_within : GoodIn wsX10_price wsX10_within := goodIn_r _ [4] (by decide +kernel) (by decide +kernel)
set_option maxRecDepth 20000 in
theorem gX10_price_X10_within : GoodIn wsX10_price (va_wsS RX10 64 yX10_within wsX10_within) := goodIn_app (goodIn_of _ (by decide +kernel)) ggX10_price_X10_within
set_option maxRecDepth 20000 in
theorem ggX10_price_X2_priceIn : GoodIn wsX10_price wsX2_priceIn := goodIn_r _ [8] (by decide +kernel) (by decide +kernel)
set_option maxRecDepth 20000 in
theorem gX10_price_X2_priceIn : GoodIn wsX10_price (va_wsS RX10 168 yX2_priceIn wsX2_priceIn) := goodIn_app (goodIn_of _ (by decide +kernel)) ggX10_price_X2_priceIn
theorem dX10_price_0 : decode cX10_price 0 = .ok (.iload_n 1, 1) := by decide +kernel
theorem dX10_price_1 : decode cX10_price 1 = .ok (.iconst 0, 1) := by decide +kernel
theorem dX10_price_2 : decode cX10_price 2 = .ok (.bipush 48, 2) := by decide +kernel
theorem dX10_price_4 : decode cX10_price 4 = .ok (.invokestatic 64, 3) := by decide +kernel
theorem dX10_price_7 : decode cX10_price 7 = .ok (.ifCond .eq 10, 3) := by decide +kernel
theorem dX10_price_10 : decode cX10_price 10 = .ok (.iload_n 1, 1) := by decide +kernel
theorem dX10_price_11 : decode cX10_price 11 = .ok (.invokestatic 168, 3) := by decide +kernel
theorem dX10_price_14 : decode cX10_price 14 = .ok (.goto 5, 3) := by decide +kernel
theorem dX10_price_17 : decode cX10_price 17 = .ok (.bipush (-3), 2) := by decide +kernel
theorem dX10_price_19 : decode cX10_price 19 = .ok (.ireturn, 1) := by decide +kernel
set_option maxRecDepth 20000 in
theorem ggX10_fill_X1_hasCart : GoodIn wsX10_fill wsX1_hasCart := goodIn_r _ [9, 10, 68, 69, 70, 71, 72, 73, 74, 75, 76, 77, 78, 79] (by decide +kernel) (by decide +kernel)
set_option maxRecDepth 20000 in
theorem gX10_fill_X1_hasCart : GoodIn wsX10_fill (wsV RX10 136 RX1 yX1_hasCart wsX1_hasCart) := goodIn_app (goodIn_of _ (by decide +kernel)) ggX10_fill_X1_hasCart
set_option maxRecDepth 20000 in
theorem ggX10_fill_X10_within : GoodIn wsX10_fill wsX10_within := goodIn_r _ [14] (by decide +kernel) (by decide +kernel)
set_option maxRecDepth 20000 in
theorem gX10_fill_X10_within : GoodIn wsX10_fill (va_wsS RX10 64 yX10_within wsX10_within) := goodIn_app (goodIn_of _ (by decide +kernel)) ggX10_fill_X10_within
set_option maxRecDepth 20000 in
theorem ggX10_fill_X10_isIn : GoodIn wsX10_fill wsX10_isIn := goodIn_r _ [18, 1, 19, 2, 3, 20, 48, 49, 50, 51, 52, 53, 54, 55, 56, 68, 69, 70, 71, 72, 73, 74, 75, 76, 77, 78, 79, 57, 58, 59, 60, 61, 62, 63, 64, 65, 66, 67] (by decide +kernel) (by decide +kernel)
set_option maxRecDepth 20000 in
theorem gX10_fill_X10_isIn : GoodIn wsX10_fill (wsV RX10 173 RX10 yX10_isIn wsX10_isIn) := goodIn_app (goodIn_of _ (by decide +kernel)) ggX10_fill_X10_isIn
set_option maxRecDepth 20000 in
theorem ggX10_fill_X0_remember : GoodIn wsX10_fill wsX0_remember := goodIn_r _ [25, 26, 27, 28, 29, 30, 31, 32, 33, 34, 35, 36, 37, 38, 39, 40, 41, 42, 43, 44, 45, 46, 47, 57, 58, 59, 60, 61, 62, 63, 64, 65, 66, 67] (by decide +kernel) (by decide +kernel)
set_option maxRecDepth 20000 in
theorem gX10_fill_X0_remember : GoodIn wsX10_fill (wsV RX10 176 RX0 yX0_remember wsX0_remember) := goodIn_app (goodIn_of _ (by decide +kernel)) ggX10_fill_X0_remember
theorem dX10_fill_0 : decode cX10_fill 0 = .ok (.aload_n 0, 1) := by decide +kernel
theorem dX10_fill_1 : decode cX10_fill 1 = .ok (.getfield 19, 3) := by decide +kernel
theorem dX10_fill_4 : decode cX10_fill 4 = .ok (.iload_n 1, 1) := by decide +kernel
theorem dX10_fill_5 : decode cX10_fill 5 = .ok (.invokevirtual 136, 3) := by decide +kernel
theorem dX10_fill_8 : decode cX10_fill 8 = .ok (.ifCond .ne 6, 3) := by decide +kernel
theorem dX10_fill_11 : decode cX10_fill 11 = .ok (.bipush (-2), 2) := by decide +kernel
theorem dX10_fill_13 : decode cX10_fill 13 = .ok (.ireturn, 1) := by decide +kernel
theorem dX10_fill_14 : decode cX10_fill 14 = .ok (.iload_n 2, 1) := by decide +kernel
theorem dX10_fill_15 : decode cX10_fill 15 = .ok (.iconst 1, 1) := by decide +kernel
theorem dX10_fill_16 : decode cX10_fill 16 = .ok (.bipush 99, 2) := by decide +kernel
theorem dX10_fill_18 : decode cX10_fill 18 = .ok (.invokestatic 64, 3) := by decide +kernel
theorem dX10_fill_21 : decode cX10_fill 21 = .ok (.ifCond .ne 6, 3) := by decide +kernel
theorem dX10_fill_24 : decode cX10_fill 24 = .ok (.bipush (-3), 2) := by decide +kernel
theorem dX10_fill_26 : decode cX10_fill 26 = .ok (.ireturn, 1) := by decide +kernel
theorem dX10_fill_27 : decode cX10_fill 27 = .ok (.aload_n 0, 1) := by decide +kernel
theorem dX10_fill_28 : decode cX10_fill 28 = .ok (.getfield 26, 3) := by decide +kernel
theorem dX10_fill_31 : decode cX10_fill 31 = .ok (.getfield 101, 3) := by decide +kernel
theorem dX10_fill_34 : decode cX10_fill 34 = .ok (.astore_n 3, 1) := by decide +kernel
theorem dX10_fill_35 : decode cX10_fill 35 = .ok (.aload_n 0, 1) := by decide +kernel
theorem dX10_fill_36 : decode cX10_fill 36 = .ok (.iload_n 1, 1) := by decide +kernel
theorem dX10_fill_37 : decode cX10_fill 37 = .ok (.iconst 1, 1) := by decide +kernel
theorem dX10_fill_38 : decode cX10_fill 38 = .ok (.invokevirtual 173, 3) := by decide +kernel
theorem dX10_fill_41 : decode cX10_fill 41 = .ok (.ifCond .ne 6, 3) := by decide +kernel
theorem dX10_fill_44 : decode cX10_fill 44 = .ok (.bipush (-4), 2) := by decide +kernel
theorem dX10_fill_46 : decode cX10_fill 46 = .ok (.ireturn, 1) := by decide +kernel
theorem dX10_fill_47 : decode cX10_fill 47 = .ok (.aload_n 3, 1) := by decide +kernel
theorem dX10_fill_48 : decode cX10_fill 48 = .ok (.getfield 151, 3) := by decide +kernel
theorem dX10_fill_51 : decode cX10_fill 51 = .ok (.iload_n 1, 1) := by decide +kernel
theorem dX10_fill_52 : decode cX10_fill 52 = .ok (.iaload, 1) := by decide +kernel
theorem dX10_fill_53 : decode cX10_fill 53 = .ok (.iload_n 2, 1) := by decide +kernel
theorem dX10_fill_54 : decode cX10_fill 54 = .ok (.iadd, 1) := by decide +kernel
theorem dX10_fill_55 : decode cX10_fill 55 = .ok (.bipush 99, 2) := by decide +kernel
theorem dX10_fill_57 : decode cX10_fill 57 = .ok (.if_icmp .le 6, 3) := by decide +kernel
theorem dX10_fill_60 : decode cX10_fill 60 = .ok (.bipush (-5), 2) := by decide +kernel
theorem dX10_fill_62 : decode cX10_fill 62 = .ok (.ireturn, 1) := by decide +kernel
theorem dX10_fill_63 : decode cX10_fill 63 = .ok (.aload_n 0, 1) := by decide +kernel
theorem dX10_fill_64 : decode cX10_fill 64 = .ok (.getfield 26, 3) := by decide +kernel
theorem dX10_fill_67 : decode cX10_fill 67 = .ok (.invokevirtual 176, 3) := by decide +kernel
theorem dX10_fill_70 : decode cX10_fill 70 = .ok (.aload_n 3, 1) := by decide +kernel
theorem dX10_fill_71 : decode cX10_fill 71 = .ok (.getfield 151, 3) := by decide +kernel
theorem dX10_fill_74 : decode cX10_fill 74 = .ok (.iload_n 1, 1) := by decide +kernel
theorem dX10_fill_75 : decode cX10_fill 75 = .ok (.dup2, 1) := by decide +kernel
theorem dX10_fill_76 : decode cX10_fill 76 = .ok (.iaload, 1) := by decide +kernel
theorem dX10_fill_77 : decode cX10_fill 77 = .ok (.iload_n 2, 1) := by decide +kernel
theorem dX10_fill_78 : decode cX10_fill 78 = .ok (.iadd, 1) := by decide +kernel
theorem dX10_fill_79 : decode cX10_fill 79 = .ok (.iastore, 1) := by decide +kernel
theorem dX10_fill_80 : decode cX10_fill 80 = .ok (.aload_n 3, 1) := by decide +kernel
theorem dX10_fill_81 : decode cX10_fill 81 = .ok (.getfield 151, 3) := by decide +kernel
theorem dX10_fill_84 : decode cX10_fill 84 = .ok (.iload_n 1, 1) := by decide +kernel
theorem dX10_fill_85 : decode cX10_fill 85 = .ok (.iaload, 1) := by decide +kernel
theorem dX10_fill_86 : decode cX10_fill 86 = .ok (.ireturn, 1) := by decide +kernel
set_option maxRecDepth 20000 in
theorem ggX10_go_X1_hasCart : GoodIn wsX10_go wsX1_hasCart := goodIn_r _ [12, 13, 108, 109, 110, 111, 112, 113, 114, 115, 116, 117, 118, 119] (by decide +kernel) (by decide +kernel)
set_option maxRecDepth 20000 in
theorem gX10_go_X1_hasCart : GoodIn wsX10_go (wsV RX10 136 RX1 yX1_hasCart wsX1_hasCart) := goodIn_app (goodIn_of _ (by decide +kernel)) ggX10_go_X1_hasCart
set_option maxRecDepth 20000 in
theorem ggX10_go_X1_hasRoad : GoodIn wsX10_go wsX1_hasRoad := goodIn_r _ [17, 18, 108, 109, 110, 111, 112, 113, 114, 115, 116, 117, 118, 119] (by decide +kernel) (by decide +kernel)
set_option maxRecDepth 20000 in
theorem gX10_go_X1_hasRoad : GoodIn wsX10_go (wsV RX10 121 RX1 yX1_hasRoad wsX1_hasRoad) := goodIn_app (goodIn_of _ (by decide +kernel)) ggX10_go_X1_hasRoad
set_option maxRecDepth 20000 in
theorem ggX10_go_X1_touches : GoodIn wsX10_go wsX1_touches := goodIn_r _ [22, 23, 24, 108, 109, 110, 111, 112, 113, 114, 115, 116, 117, 118, 119] (by decide +kernel) (by decide +kernel)
set_option maxRecDepth 20000 in
theorem gX10_go_X1_touches : GoodIn wsX10_go (wsV RX10 179 RX1 yX1_touches wsX1_touches) := goodIn_app (goodIn_of _ (by decide +kernel)) ggX10_go_X1_touches
set_option maxRecDepth 20000 in
theorem ggX10_go_X10_comesInTime : GoodIn wsX10_go wsX10_comesInTime := goodIn_r _ [29, 2, 3, 6, 1, 7, 88, 89, 90, 91, 92, 93, 94, 95, 96, 97, 98, 99, 100, 101, 102, 103, 104, 105, 106, 107, 108, 109, 110, 111, 112, 113, 114, 115, 116, 117, 118, 119] (by decide +kernel) (by decide +kernel)
set_option maxRecDepth 20000 in
theorem gX10_go_X10_comesInTime : GoodIn wsX10_go (wsV RX10 182 RX10 yX10_comesInTime wsX10_comesInTime) := goodIn_app (goodIn_of _ (by decide +kernel)) ggX10_go_X10_comesInTime
set_option maxRecDepth 20000 in
theorem ggX10_go_X10_afterGoing : GoodIn wsX10_go wsX10_afterGoing := goodIn_r _ [33, 2, 3, 1, 5, 6, 34, 35, 36, 37, 38, 11, 39, 40, 41, 42, 43, 44, 45, 46, 47, 48, 49, 50, 51, 52, 53, 54, 55, 56, 57, 58, 59, 88, 89, 90, 91, 92, 93, 94, 95, 96, 97, 98, 99, 100, 101, 102, 103, 104, 105, 106, 107, 108, 109, 110, 111, 112, 113, 114, 115, 116, 117, 118, 119] (by decide +kernel) (by decide +kernel)
set_option maxRecDepth 20000 in
theorem gX10_go_X10_afterGoing : GoodIn wsX10_go (wsV RX10 185 RX10 yX10_afterGoing wsX10_afterGoing) := goodIn_app (goodIn_of _ (by decide +kernel)) ggX10_go_X10_afterGoing
set_option maxRecDepth 20000 in
theorem ggX10_go_X0_remember : GoodIn wsX10_go wsX0_remember := goodIn_r _ [64, 65, 66, 67, 68, 69, 58, 49, 59, 70, 71, 72, 73, 74, 75, 76, 77, 78, 79, 80, 81, 82, 83, 97, 98, 99, 100, 101, 102, 103, 104, 105, 106, 107] (by decide +kernel) (by decide +kernel)
set_option maxRecDepth 20000 in
theorem gX10_go_X0_remember : GoodIn wsX10_go (wsV RX10 176 RX0 yX0_remember wsX0_remember) := goodIn_app (goodIn_of _ (by decide +kernel)) ggX10_go_X0_remember
set_option maxRecDepth 20000 in
theorem ggX10_go_X1_farEnd : GoodIn wsX10_go wsX1_farEnd := goodIn_r _ [87, 23, 24, 108, 109, 110, 111, 112, 113, 114, 115, 116, 117, 118, 119] (by decide +kernel) (by decide +kernel)
set_option maxRecDepth 20000 in
theorem gX10_go_X1_farEnd : GoodIn wsX10_go (wsV RX10 188 RX1 yX1_farEnd wsX1_farEnd) := goodIn_app (goodIn_of _ (by decide +kernel)) ggX10_go_X1_farEnd
theorem dX10_go_0 : decode cX10_go 0 = .ok (.aload_n 0, 1) := by decide +kernel
theorem dX10_go_1 : decode cX10_go 1 = .ok (.getfield 19, 3) := by decide +kernel
theorem dX10_go_4 : decode cX10_go 4 = .ok (.iload_n 1, 1) := by decide +kernel
theorem dX10_go_5 : decode cX10_go 5 = .ok (.invokevirtual 136, 3) := by decide +kernel
theorem dX10_go_8 : decode cX10_go 8 = .ok (.ifCond .eq 14, 3) := by decide +kernel
theorem dX10_go_11 : decode cX10_go 11 = .ok (.aload_n 0, 1) := by decide +kernel
theorem dX10_go_12 : decode cX10_go 12 = .ok (.getfield 19, 3) := by decide +kernel
theorem dX10_go_15 : decode cX10_go 15 = .ok (.iload_n 2, 1) := by decide +kernel
theorem dX10_go_16 : decode cX10_go 16 = .ok (.invokevirtual 121, 3) := by decide +kernel
theorem dX10_go_19 : decode cX10_go 19 = .ok (.ifCond .ne 6, 3) := by decide +kernel
theorem dX10_go_22 : decode cX10_go 22 = .ok (.bipush (-2), 2) := by decide +kernel
theorem dX10_go_24 : decode cX10_go 24 = .ok (.ireturn, 1) := by decide +kernel
theorem dX10_go_25 : decode cX10_go 25 = .ok (.aload_n 0, 1) := by decide +kernel
theorem dX10_go_26 : decode cX10_go 26 = .ok (.getfield 26, 3) := by decide +kernel
theorem dX10_go_29 : decode cX10_go 29 = .ok (.getfield 101, 3) := by decide +kernel
theorem dX10_go_32 : decode cX10_go 32 = .ok (.astore_n 3, 1) := by decide +kernel
theorem dX10_go_33 : decode cX10_go 33 = .ok (.aload_n 0, 1) := by decide +kernel
theorem dX10_go_34 : decode cX10_go 34 = .ok (.getfield 19, 3) := by decide +kernel
theorem dX10_go_37 : decode cX10_go 37 = .ok (.iload_n 2, 1) := by decide +kernel
theorem dX10_go_38 : decode cX10_go 38 = .ok (.aload_n 3, 1) := by decide +kernel
theorem dX10_go_39 : decode cX10_go 39 = .ok (.getfield 145, 3) := by decide +kernel
theorem dX10_go_42 : decode cX10_go 42 = .ok (.iload_n 1, 1) := by decide +kernel
theorem dX10_go_43 : decode cX10_go 43 = .ok (.iaload, 1) := by decide +kernel
theorem dX10_go_44 : decode cX10_go 44 = .ok (.invokevirtual 179, 3) := by decide +kernel
theorem dX10_go_47 : decode cX10_go 47 = .ok (.ifCond .ne 6, 3) := by decide +kernel
theorem dX10_go_50 : decode cX10_go 50 = .ok (.bipush (-4), 2) := by decide +kernel
theorem dX10_go_52 : decode cX10_go 52 = .ok (.ireturn, 1) := by decide +kernel
theorem dX10_go_53 : decode cX10_go 53 = .ok (.aload_n 0, 1) := by decide +kernel
theorem dX10_go_54 : decode cX10_go 54 = .ok (.iload_n 1, 1) := by decide +kernel
theorem dX10_go_55 : decode cX10_go 55 = .ok (.iload_n 2, 1) := by decide +kernel
theorem dX10_go_56 : decode cX10_go 56 = .ok (.invokevirtual 182, 3) := by decide +kernel
theorem dX10_go_59 : decode cX10_go 59 = .ok (.ifCond .ne 6, 3) := by decide +kernel
theorem dX10_go_62 : decode cX10_go 62 = .ok (.bipush (-5), 2) := by decide +kernel
theorem dX10_go_64 : decode cX10_go 64 = .ok (.ireturn, 1) := by decide +kernel
theorem dX10_go_65 : decode cX10_go 65 = .ok (.aload_n 0, 1) := by decide +kernel
theorem dX10_go_66 : decode cX10_go 66 = .ok (.iload_n 1, 1) := by decide +kernel
theorem dX10_go_67 : decode cX10_go 67 = .ok (.iload_n 2, 1) := by decide +kernel
theorem dX10_go_68 : decode cX10_go 68 = .ok (.invokevirtual 185, 3) := by decide +kernel
theorem dX10_go_71 : decode cX10_go 71 = .ok (.istore 4, 2) := by decide +kernel
theorem dX10_go_73 : decode cX10_go 73 = .ok (.aload_n 0, 1) := by decide +kernel
theorem dX10_go_74 : decode cX10_go 74 = .ok (.getfield 26, 3) := by decide +kernel
theorem dX10_go_77 : decode cX10_go 77 = .ok (.invokevirtual 176, 3) := by decide +kernel
theorem dX10_go_80 : decode cX10_go 80 = .ok (.aload_n 3, 1) := by decide +kernel
theorem dX10_go_81 : decode cX10_go 81 = .ok (.getfield 151, 3) := by decide +kernel
theorem dX10_go_84 : decode cX10_go 84 = .ok (.iload_n 1, 1) := by decide +kernel
theorem dX10_go_85 : decode cX10_go 85 = .ok (.iload 4, 2) := by decide +kernel
theorem dX10_go_87 : decode cX10_go 87 = .ok (.iastore, 1) := by decide +kernel
theorem dX10_go_88 : decode cX10_go 88 = .ok (.aload_n 3, 1) := by decide +kernel
theorem dX10_go_89 : decode cX10_go 89 = .ok (.getfield 145, 3) := by decide +kernel
theorem dX10_go_92 : decode cX10_go 92 = .ok (.iload_n 1, 1) := by decide +kernel
theorem dX10_go_93 : decode cX10_go 93 = .ok (.aload_n 0, 1) := by decide +kernel
theorem dX10_go_94 : decode cX10_go 94 = .ok (.getfield 19, 3) := by decide +kernel
theorem dX10_go_97 : decode cX10_go 97 = .ok (.iload_n 2, 1) := by decide +kernel
theorem dX10_go_98 : decode cX10_go 98 = .ok (.aload_n 3, 1) := by decide +kernel
theorem dX10_go_99 : decode cX10_go 99 = .ok (.getfield 145, 3) := by decide +kernel
theorem dX10_go_102 : decode cX10_go 102 = .ok (.iload_n 1, 1) := by decide +kernel
theorem dX10_go_103 : decode cX10_go 103 = .ok (.iaload, 1) := by decide +kernel
theorem dX10_go_104 : decode cX10_go 104 = .ok (.invokevirtual 188, 3) := by decide +kernel
theorem dX10_go_107 : decode cX10_go 107 = .ok (.iastore, 1) := by decide +kernel
theorem dX10_go_108 : decode cX10_go 108 = .ok (.aload_n 3, 1) := by decide +kernel
theorem dX10_go_109 : decode cX10_go 109 = .ok (.getfield 148, 3) := by decide +kernel
theorem dX10_go_112 : decode cX10_go 112 = .ok (.iload_n 1, 1) := by decide +kernel
theorem dX10_go_113 : decode cX10_go 113 = .ok (.dup2, 1) := by decide +kernel
theorem dX10_go_114 : decode cX10_go 114 = .ok (.iaload, 1) := by decide +kernel
theorem dX10_go_115 : decode cX10_go 115 = .ok (.aload_n 0, 1) := by decide +kernel
theorem dX10_go_116 : decode cX10_go 116 = .ok (.getfield 19, 3) := by decide +kernel
theorem dX10_go_119 : decode cX10_go 119 = .ok (.getfield 133, 3) := by decide +kernel
theorem dX10_go_122 : decode cX10_go 122 = .ok (.iload_n 2, 1) := by decide +kernel
theorem dX10_go_123 : decode cX10_go 123 = .ok (.iaload, 1) := by decide +kernel
theorem dX10_go_124 : decode cX10_go 124 = .ok (.iadd, 1) := by decide +kernel
theorem dX10_go_125 : decode cX10_go 125 = .ok (.iastore, 1) := by decide +kernel
theorem dX10_go_126 : decode cX10_go 126 = .ok (.iload 4, 2) := by decide +kernel
theorem dX10_go_128 : decode cX10_go 128 = .ok (.ireturn, 1) := by decide +kernel
set_option maxRecDepth 20000 in
theorem ggX10_rest_X1_hasCart : GoodIn wsX10_rest wsX1_hasCart := goodIn_r _ [10, 11, 90, 91, 92, 93, 94, 95, 96, 97, 98, 99, 100, 101] (by decide +kernel) (by decide +kernel)
set_option maxRecDepth 20000 in
theorem gX10_rest_X1_hasCart : GoodIn wsX10_rest (wsV RX10 136 RX1 yX1_hasCart wsX1_hasCart) := goodIn_app (goodIn_of _ (by decide +kernel)) ggX10_rest_X1_hasCart
set_option maxRecDepth 20000 in
theorem ggX10_rest_X10_within : GoodIn wsX10_rest wsX10_within := goodIn_r _ [15] (by decide +kernel) (by decide +kernel)
set_option maxRecDepth 20000 in
theorem gX10_rest_X10_within : GoodIn wsX10_rest (va_wsS RX10 64 yX10_within wsX10_within) := goodIn_app (goodIn_of _ (by decide +kernel)) ggX10_rest_X10_within
set_option maxRecDepth 20000 in
theorem ggX10_rest_X10_afterResting : GoodIn wsX10_rest wsX10_afterResting := goodIn_r _ [19, 2, 3, 5, 1, 20, 4, 21, 22, 23, 24, 25, 9, 26, 27, 28, 29, 30, 31, 32, 33, 34, 35, 36, 37, 38, 39, 40, 41, 42, 43, 44, 45, 70, 71, 72, 73, 74, 75, 76, 77, 78, 79, 80, 81, 82, 83, 84, 85, 86, 87, 88, 89, 90, 91, 92, 93, 94, 95, 96, 97, 98, 99, 100, 101] (by decide +kernel) (by decide +kernel)
set_option maxRecDepth 20000 in
theorem gX10_rest_X10_afterResting : GoodIn wsX10_rest (wsV RX10 158 RX10 yX10_afterResting wsX10_afterResting) := goodIn_app (goodIn_of _ (by decide +kernel)) ggX10_rest_X10_afterResting
set_option maxRecDepth 20000 in
theorem ggX10_rest_X0_remember : GoodIn wsX10_rest wsX0_remember := goodIn_r _ [50, 51, 52, 53, 54, 55, 44, 35, 45, 56, 57, 58, 59, 60, 61, 62, 63, 64, 65, 66, 67, 68, 69, 79, 80, 81, 82, 83, 84, 85, 86, 87, 88, 89] (by decide +kernel) (by decide +kernel)
set_option maxRecDepth 20000 in
theorem gX10_rest_X0_remember : GoodIn wsX10_rest (wsV RX10 176 RX0 yX0_remember wsX0_remember) := goodIn_app (goodIn_of _ (by decide +kernel)) ggX10_rest_X0_remember
theorem dX10_rest_0 : decode cX10_rest 0 = .ok (.aload_n 0, 1) := by decide +kernel
theorem dX10_rest_1 : decode cX10_rest 1 = .ok (.getfield 19, 3) := by decide +kernel
theorem dX10_rest_4 : decode cX10_rest 4 = .ok (.iload_n 1, 1) := by decide +kernel
theorem dX10_rest_5 : decode cX10_rest 5 = .ok (.invokevirtual 136, 3) := by decide +kernel
theorem dX10_rest_8 : decode cX10_rest 8 = .ok (.ifCond .ne 6, 3) := by decide +kernel
theorem dX10_rest_11 : decode cX10_rest 11 = .ok (.bipush (-2), 2) := by decide +kernel
theorem dX10_rest_13 : decode cX10_rest 13 = .ok (.ireturn, 1) := by decide +kernel
theorem dX10_rest_14 : decode cX10_rest 14 = .ok (.iload_n 2, 1) := by decide +kernel
theorem dX10_rest_15 : decode cX10_rest 15 = .ok (.iconst 1, 1) := by decide +kernel
theorem dX10_rest_16 : decode cX10_rest 16 = .ok (.bipush 48, 2) := by decide +kernel
theorem dX10_rest_18 : decode cX10_rest 18 = .ok (.invokestatic 64, 3) := by decide +kernel
theorem dX10_rest_21 : decode cX10_rest 21 = .ok (.ifCond .ne 6, 3) := by decide +kernel
theorem dX10_rest_24 : decode cX10_rest 24 = .ok (.bipush (-3), 2) := by decide +kernel
theorem dX10_rest_26 : decode cX10_rest 26 = .ok (.ireturn, 1) := by decide +kernel
theorem dX10_rest_27 : decode cX10_rest 27 = .ok (.aload_n 0, 1) := by decide +kernel
theorem dX10_rest_28 : decode cX10_rest 28 = .ok (.getfield 26, 3) := by decide +kernel
theorem dX10_rest_31 : decode cX10_rest 31 = .ok (.getfield 101, 3) := by decide +kernel
theorem dX10_rest_34 : decode cX10_rest 34 = .ok (.astore_n 3, 1) := by decide +kernel
theorem dX10_rest_35 : decode cX10_rest 35 = .ok (.aload_n 3, 1) := by decide +kernel
theorem dX10_rest_36 : decode cX10_rest 36 = .ok (.getfield 148, 3) := by decide +kernel
theorem dX10_rest_39 : decode cX10_rest 39 = .ok (.iload_n 1, 1) := by decide +kernel
theorem dX10_rest_40 : decode cX10_rest 40 = .ok (.iaload, 1) := by decide +kernel
theorem dX10_rest_41 : decode cX10_rest 41 = .ok (.iload_n 2, 1) := by decide +kernel
theorem dX10_rest_42 : decode cX10_rest 42 = .ok (.iadd, 1) := by decide +kernel
theorem dX10_rest_43 : decode cX10_rest 43 = .ok (.bipush 48, 2) := by decide +kernel
theorem dX10_rest_45 : decode cX10_rest 45 = .ok (.if_icmp .le 6, 3) := by decide +kernel
theorem dX10_rest_48 : decode cX10_rest 48 = .ok (.bipush (-5), 2) := by decide +kernel
theorem dX10_rest_50 : decode cX10_rest 50 = .ok (.ireturn, 1) := by decide +kernel
theorem dX10_rest_51 : decode cX10_rest 51 = .ok (.aload_n 0, 1) := by decide +kernel
theorem dX10_rest_52 : decode cX10_rest 52 = .ok (.iload_n 1, 1) := by decide +kernel
theorem dX10_rest_53 : decode cX10_rest 53 = .ok (.iload_n 2, 1) := by decide +kernel
theorem dX10_rest_54 : decode cX10_rest 54 = .ok (.invokevirtual 158, 3) := by decide +kernel
theorem dX10_rest_57 : decode cX10_rest 57 = .ok (.istore 4, 2) := by decide +kernel
theorem dX10_rest_59 : decode cX10_rest 59 = .ok (.aload_n 0, 1) := by decide +kernel
theorem dX10_rest_60 : decode cX10_rest 60 = .ok (.getfield 26, 3) := by decide +kernel
theorem dX10_rest_63 : decode cX10_rest 63 = .ok (.invokevirtual 176, 3) := by decide +kernel
theorem dX10_rest_66 : decode cX10_rest 66 = .ok (.aload_n 3, 1) := by decide +kernel
theorem dX10_rest_67 : decode cX10_rest 67 = .ok (.getfield 151, 3) := by decide +kernel
theorem dX10_rest_70 : decode cX10_rest 70 = .ok (.iload_n 1, 1) := by decide +kernel
theorem dX10_rest_71 : decode cX10_rest 71 = .ok (.iload 4, 2) := by decide +kernel
theorem dX10_rest_73 : decode cX10_rest 73 = .ok (.iastore, 1) := by decide +kernel
theorem dX10_rest_74 : decode cX10_rest 74 = .ok (.aload_n 3, 1) := by decide +kernel
theorem dX10_rest_75 : decode cX10_rest 75 = .ok (.getfield 148, 3) := by decide +kernel
theorem dX10_rest_78 : decode cX10_rest 78 = .ok (.iload_n 1, 1) := by decide +kernel
theorem dX10_rest_79 : decode cX10_rest 79 = .ok (.dup2, 1) := by decide +kernel
theorem dX10_rest_80 : decode cX10_rest 80 = .ok (.iaload, 1) := by decide +kernel
theorem dX10_rest_81 : decode cX10_rest 81 = .ok (.iload_n 2, 1) := by decide +kernel
theorem dX10_rest_82 : decode cX10_rest 82 = .ok (.iadd, 1) := by decide +kernel
theorem dX10_rest_83 : decode cX10_rest 83 = .ok (.iastore, 1) := by decide +kernel
theorem dX10_rest_84 : decode cX10_rest 84 = .ok (.iload 4, 2) := by decide +kernel
theorem dX10_rest_86 : decode cX10_rest 86 = .ok (.ireturn, 1) := by decide +kernel
set_option maxRecDepth 20000 in
theorem ggX10_join_X1_hasCart : GoodIn wsX10_join wsX1_hasCart := goodIn_r _ [15, 16, 88, 89, 90, 91, 92, 93, 94, 95, 96, 97, 98, 99] (by decide +kernel) (by decide +kernel)
set_option maxRecDepth 20000 in
theorem gX10_join_X1_hasCart : GoodIn wsX10_join (wsV RX10 136 RX1 yX1_hasCart wsX1_hasCart) := goodIn_app (goodIn_of _ (by decide +kernel)) ggX10_join_X1_hasCart
set_option maxRecDepth 20000 in
theorem ggX10_join_X10_afterResting : GoodIn wsX10_join wsX10_afterResting := goodIn_r _ [21, 2, 3, 10, 1, 4, 5, 22, 23, 24, 25, 26, 14, 27, 28, 29, 30, 31, 32, 33, 34, 7, 8, 9, 35, 36, 37, 38, 39, 40, 41, 42, 43, 68, 69, 70, 71, 72, 73, 74, 75, 76, 77, 78, 79, 80, 81, 82, 83, 84, 85, 86, 87, 88, 89, 90, 91, 92, 93, 94, 95, 96, 97, 98, 99] (by decide +kernel) (by decide +kernel)
set_option maxRecDepth 20000 in
theorem gX10_join_X10_afterResting : GoodIn wsX10_join (wsV RX10 158 RX10 yX10_afterResting wsX10_afterResting) := goodIn_app (goodIn_of _ (by decide +kernel)) ggX10_join_X10_afterResting
set_option maxRecDepth 20000 in
theorem ggX10_join_X0_remember : GoodIn wsX10_join wsX0_remember := goodIn_r _ [48, 49, 50, 51, 52, 53, 42, 8, 43, 54, 55, 56, 57, 58, 59, 60, 61, 62, 63, 64, 65, 66, 67, 77, 78, 79, 80, 81, 82, 83, 84, 85, 86, 87] (by decide +kernel) (by decide +kernel)
set_option maxRecDepth 20000 in
theorem gX10_join_X0_remember : GoodIn wsX10_join (wsV RX10 176 RX0 yX0_remember wsX0_remember) := goodIn_app (goodIn_of _ (by decide +kernel)) ggX10_join_X0_remember
theorem dX10_join_0 : decode cX10_join 0 = .ok (.aload_n 0, 1) := by decide +kernel
theorem dX10_join_1 : decode cX10_join 1 = .ok (.getfield 19, 3) := by decide +kernel
theorem dX10_join_4 : decode cX10_join 4 = .ok (.iload_n 1, 1) := by decide +kernel
theorem dX10_join_5 : decode cX10_join 5 = .ok (.invokevirtual 136, 3) := by decide +kernel
theorem dX10_join_8 : decode cX10_join 8 = .ok (.ifCond .eq 19, 3) := by decide +kernel
theorem dX10_join_11 : decode cX10_join 11 = .ok (.aload_n 0, 1) := by decide +kernel
theorem dX10_join_12 : decode cX10_join 12 = .ok (.getfield 19, 3) := by decide +kernel
theorem dX10_join_15 : decode cX10_join 15 = .ok (.iload_n 2, 1) := by decide +kernel
theorem dX10_join_16 : decode cX10_join 16 = .ok (.invokevirtual 136, 3) := by decide +kernel
theorem dX10_join_19 : decode cX10_join 19 = .ok (.ifCond .eq 8, 3) := by decide +kernel
theorem dX10_join_22 : decode cX10_join 22 = .ok (.iload_n 1, 1) := by decide +kernel
theorem dX10_join_23 : decode cX10_join 23 = .ok (.iload_n 2, 1) := by decide +kernel
theorem dX10_join_24 : decode cX10_join 24 = .ok (.if_icmp .ne 6, 3) := by decide +kernel
theorem dX10_join_27 : decode cX10_join 27 = .ok (.bipush (-2), 2) := by decide +kernel
theorem dX10_join_29 : decode cX10_join 29 = .ok (.ireturn, 1) := by decide +kernel
theorem dX10_join_30 : decode cX10_join 30 = .ok (.aload_n 0, 1) := by decide +kernel
theorem dX10_join_31 : decode cX10_join 31 = .ok (.getfield 26, 3) := by decide +kernel
theorem dX10_join_34 : decode cX10_join 34 = .ok (.getfield 101, 3) := by decide +kernel
theorem dX10_join_37 : decode cX10_join 37 = .ok (.astore_n 3, 1) := by decide +kernel
theorem dX10_join_38 : decode cX10_join 38 = .ok (.aload_n 3, 1) := by decide +kernel
theorem dX10_join_39 : decode cX10_join 39 = .ok (.getfield 145, 3) := by decide +kernel
theorem dX10_join_42 : decode cX10_join 42 = .ok (.iload_n 1, 1) := by decide +kernel
theorem dX10_join_43 : decode cX10_join 43 = .ok (.iaload, 1) := by decide +kernel
theorem dX10_join_44 : decode cX10_join 44 = .ok (.aload_n 3, 1) := by decide +kernel
theorem dX10_join_45 : decode cX10_join 45 = .ok (.getfield 145, 3) := by decide +kernel
theorem dX10_join_48 : decode cX10_join 48 = .ok (.iload_n 2, 1) := by decide +kernel
theorem dX10_join_49 : decode cX10_join 49 = .ok (.iaload, 1) := by decide +kernel
theorem dX10_join_50 : decode cX10_join 50 = .ok (.if_icmp .eq 6, 3) := by decide +kernel
theorem dX10_join_53 : decode cX10_join 53 = .ok (.bipush (-4), 2) := by decide +kernel
theorem dX10_join_55 : decode cX10_join 55 = .ok (.ireturn, 1) := by decide +kernel
theorem dX10_join_56 : decode cX10_join 56 = .ok (.aload_n 3, 1) := by decide +kernel
theorem dX10_join_57 : decode cX10_join 57 = .ok (.getfield 148, 3) := by decide +kernel
theorem dX10_join_60 : decode cX10_join 60 = .ok (.iload_n 1, 1) := by decide +kernel
theorem dX10_join_61 : decode cX10_join 61 = .ok (.iaload, 1) := by decide +kernel
theorem dX10_join_62 : decode cX10_join 62 = .ok (.aload_n 3, 1) := by decide +kernel
theorem dX10_join_63 : decode cX10_join 63 = .ok (.getfield 148, 3) := by decide +kernel
theorem dX10_join_66 : decode cX10_join 66 = .ok (.iload_n 2, 1) := by decide +kernel
theorem dX10_join_67 : decode cX10_join 67 = .ok (.iaload, 1) := by decide +kernel
theorem dX10_join_68 : decode cX10_join 68 = .ok (.invokestatic 191, 3) := by decide +kernel
theorem dX10_join_71 : decode cX10_join 71 = .ok (.istore 4, 2) := by decide +kernel
theorem dX10_join_73 : decode cX10_join 73 = .ok (.aload_n 0, 1) := by decide +kernel
theorem dX10_join_74 : decode cX10_join 74 = .ok (.iload_n 1, 1) := by decide +kernel
theorem dX10_join_75 : decode cX10_join 75 = .ok (.iload 4, 2) := by decide +kernel
theorem dX10_join_77 : decode cX10_join 77 = .ok (.aload_n 3, 1) := by decide +kernel
theorem dX10_join_78 : decode cX10_join 78 = .ok (.getfield 148, 3) := by decide +kernel
theorem dX10_join_81 : decode cX10_join 81 = .ok (.iload_n 1, 1) := by decide +kernel
theorem dX10_join_82 : decode cX10_join 82 = .ok (.iaload, 1) := by decide +kernel
theorem dX10_join_83 : decode cX10_join 83 = .ok (.isub, 1) := by decide +kernel
theorem dX10_join_84 : decode cX10_join 84 = .ok (.invokevirtual 158, 3) := by decide +kernel
theorem dX10_join_87 : decode cX10_join 87 = .ok (.aload_n 0, 1) := by decide +kernel
theorem dX10_join_88 : decode cX10_join 88 = .ok (.iload_n 2, 1) := by decide +kernel
theorem dX10_join_89 : decode cX10_join 89 = .ok (.iload 4, 2) := by decide +kernel
theorem dX10_join_91 : decode cX10_join 91 = .ok (.aload_n 3, 1) := by decide +kernel
theorem dX10_join_92 : decode cX10_join 92 = .ok (.getfield 148, 3) := by decide +kernel
theorem dX10_join_95 : decode cX10_join 95 = .ok (.iload_n 2, 1) := by decide +kernel
theorem dX10_join_96 : decode cX10_join 96 = .ok (.iaload, 1) := by decide +kernel
theorem dX10_join_97 : decode cX10_join 97 = .ok (.isub, 1) := by decide +kernel
theorem dX10_join_98 : decode cX10_join 98 = .ok (.invokevirtual 158, 3) := by decide +kernel
theorem dX10_join_101 : decode cX10_join 101 = .ok (.iadd, 1) := by decide +kernel
theorem dX10_join_102 : decode cX10_join 102 = .ok (.istore 5, 2) := by decide +kernel
theorem dX10_join_104 : decode cX10_join 104 = .ok (.iload 5, 2) := by decide +kernel
theorem dX10_join_106 : decode cX10_join 106 = .ok (.bipush 99, 2) := by decide +kernel
theorem dX10_join_108 : decode cX10_join 108 = .ok (.if_icmp .le 6, 3) := by decide +kernel
theorem dX10_join_111 : decode cX10_join 111 = .ok (.bipush (-5), 2) := by decide +kernel
theorem dX10_join_113 : decode cX10_join 113 = .ok (.ireturn, 1) := by decide +kernel
theorem dX10_join_114 : decode cX10_join 114 = .ok (.aload_n 0, 1) := by decide +kernel
theorem dX10_join_115 : decode cX10_join 115 = .ok (.getfield 26, 3) := by decide +kernel
theorem dX10_join_118 : decode cX10_join 118 = .ok (.invokevirtual 176, 3) := by decide +kernel
theorem dX10_join_121 : decode cX10_join 121 = .ok (.aload_n 3, 1) := by decide +kernel
theorem dX10_join_122 : decode cX10_join 122 = .ok (.getfield 148, 3) := by decide +kernel
theorem dX10_join_125 : decode cX10_join 125 = .ok (.iload_n 1, 1) := by decide +kernel
theorem dX10_join_126 : decode cX10_join 126 = .ok (.iload 4, 2) := by decide +kernel
theorem dX10_join_128 : decode cX10_join 128 = .ok (.iastore, 1) := by decide +kernel
theorem dX10_join_129 : decode cX10_join 129 = .ok (.aload_n 3, 1) := by decide +kernel
theorem dX10_join_130 : decode cX10_join 130 = .ok (.getfield 148, 3) := by decide +kernel
theorem dX10_join_133 : decode cX10_join 133 = .ok (.iload_n 2, 1) := by decide +kernel
theorem dX10_join_134 : decode cX10_join 134 = .ok (.iload 4, 2) := by decide +kernel
theorem dX10_join_136 : decode cX10_join 136 = .ok (.iastore, 1) := by decide +kernel
theorem dX10_join_137 : decode cX10_join 137 = .ok (.aload_n 3, 1) := by decide +kernel
theorem dX10_join_138 : decode cX10_join 138 = .ok (.getfield 151, 3) := by decide +kernel
theorem dX10_join_141 : decode cX10_join 141 = .ok (.iload_n 1, 1) := by decide +kernel
theorem dX10_join_142 : decode cX10_join 142 = .ok (.iload 5, 2) := by decide +kernel
theorem dX10_join_144 : decode cX10_join 144 = .ok (.iastore, 1) := by decide +kernel
theorem dX10_join_145 : decode cX10_join 145 = .ok (.aload_n 3, 1) := by decide +kernel
theorem dX10_join_146 : decode cX10_join 146 = .ok (.getfield 151, 3) := by decide +kernel
theorem dX10_join_149 : decode cX10_join 149 = .ok (.iload_n 2, 1) := by decide +kernel
theorem dX10_join_150 : decode cX10_join 150 = .ok (.iconst 0, 1) := by decide +kernel
theorem dX10_join_151 : decode cX10_join 151 = .ok (.iastore, 1) := by decide +kernel
theorem dX10_join_152 : decode cX10_join 152 = .ok (.iload 5, 2) := by decide +kernel
theorem dX10_join_154 : decode cX10_join 154 = .ok (.ireturn, 1) := by decide +kernel
set_option maxRecDepth 20000 in
theorem ggX10_store_X1_hasCart : GoodIn wsX10_store wsX1_hasCart := goodIn_r _ [11, 12, 73, 74, 75, 76, 77, 78, 79, 80, 81, 82, 83, 84] (by decide +kernel) (by decide +kernel)
set_option maxRecDepth 20000 in
theorem gX10_store_X1_hasCart : GoodIn wsX10_store (wsV RX10 136 RX1 yX1_hasCart wsX1_hasCart) := goodIn_app (goodIn_of _ (by decide +kernel)) ggX10_store_X1_hasCart
set_option maxRecDepth 20000 in
theorem ggX10_store_X10_isIn : GoodIn wsX10_store wsX10_isIn := goodIn_r _ [17, 1, 18, 2, 3, 4, 53, 54, 55, 56, 57, 58, 59, 60, 61, 73, 74, 75, 76, 77, 78, 79, 80, 81, 82, 83, 84, 62, 63, 64, 65, 66, 67, 68, 69, 70, 71, 72] (by decide +kernel) (by decide +kernel)
set_option maxRecDepth 20000 in
theorem gX10_store_X10_isIn : GoodIn wsX10_store (wsV RX10 173 RX10 yX10_isIn wsX10_isIn) := goodIn_app (goodIn_of _ (by decide +kernel)) ggX10_store_X10_isIn
set_option maxRecDepth 20000 in
theorem ggX10_store_X3_opened : GoodIn wsX10_store wsX3_opened := goodIn_r _ [22, 23, 24, 21, 25] (by decide +kernel) (by decide +kernel)
set_option maxRecDepth 20000 in
theorem gX10_store_X3_opened : GoodIn wsX10_store (va_wsS RX10 196 yX3_opened wsX3_opened) := goodIn_app (goodIn_of _ (by decide +kernel)) ggX10_store_X3_opened
set_option maxRecDepth 20000 in
theorem ggX10_store_X0_remember : GoodIn wsX10_store wsX0_remember := goodIn_r _ [30, 31, 32, 33, 34, 35, 36, 37, 38, 39, 40, 41, 42, 43, 44, 45, 46, 47, 48, 49, 50, 51, 52, 62, 63, 64, 65, 66, 67, 68, 69, 70, 71, 72] (by decide +kernel) (by decide +kernel)
set_option maxRecDepth 20000 in
theorem gX10_store_X0_remember : GoodIn wsX10_store (wsV RX10 176 RX0 yX0_remember wsX0_remember) := goodIn_app (goodIn_of _ (by decide +kernel)) ggX10_store_X0_remember
theorem dX10_store_0 : decode cX10_store 0 = .ok (.aload_n 0, 1) := by decide +kernel
theorem dX10_store_1 : decode cX10_store 1 = .ok (.getfield 19, 3) := by decide +kernel
theorem dX10_store_4 : decode cX10_store 4 = .ok (.iload_n 1, 1) := by decide +kernel
theorem dX10_store_5 : decode cX10_store 5 = .ok (.invokevirtual 136, 3) := by decide +kernel
theorem dX10_store_8 : decode cX10_store 8 = .ok (.ifCond .ne 6, 3) := by decide +kernel
theorem dX10_store_11 : decode cX10_store 11 = .ok (.bipush (-2), 2) := by decide +kernel
theorem dX10_store_13 : decode cX10_store 13 = .ok (.ireturn, 1) := by decide +kernel
theorem dX10_store_14 : decode cX10_store 14 = .ok (.aload_n 0, 1) := by decide +kernel
theorem dX10_store_15 : decode cX10_store 15 = .ok (.iload_n 1, 1) := by decide +kernel
theorem dX10_store_16 : decode cX10_store 16 = .ok (.iconst 2, 1) := by decide +kernel
theorem dX10_store_17 : decode cX10_store 17 = .ok (.invokevirtual 173, 3) := by decide +kernel
theorem dX10_store_20 : decode cX10_store 20 = .ok (.ifCond .ne 6, 3) := by decide +kernel
theorem dX10_store_23 : decode cX10_store 23 = .ok (.bipush (-4), 2) := by decide +kernel
theorem dX10_store_25 : decode cX10_store 25 = .ok (.ireturn, 1) := by decide +kernel
theorem dX10_store_26 : decode cX10_store 26 = .ok (.aload_n 0, 1) := by decide +kernel
theorem dX10_store_27 : decode cX10_store 27 = .ok (.getfield 26, 3) := by decide +kernel
theorem dX10_store_30 : decode cX10_store 30 = .ok (.getfield 101, 3) := by decide +kernel
theorem dX10_store_33 : decode cX10_store 33 = .ok (.astore_n 2, 1) := by decide +kernel
theorem dX10_store_34 : decode cX10_store 34 = .ok (.aload_n 2, 1) := by decide +kernel
theorem dX10_store_35 : decode cX10_store 35 = .ok (.getfield 145, 3) := by decide +kernel
theorem dX10_store_38 : decode cX10_store 38 = .ok (.iload_n 1, 1) := by decide +kernel
theorem dX10_store_39 : decode cX10_store 39 = .ok (.iaload, 1) := by decide +kernel
theorem dX10_store_40 : decode cX10_store 40 = .ok (.istore_n 3, 1) := by decide +kernel
theorem dX10_store_41 : decode cX10_store 41 = .ok (.aload_n 2, 1) := by decide +kernel
theorem dX10_store_42 : decode cX10_store 42 = .ok (.getfield 105, 3) := by decide +kernel
theorem dX10_store_45 : decode cX10_store 45 = .ok (.iload_n 3, 1) := by decide +kernel
theorem dX10_store_46 : decode cX10_store 46 = .ok (.iaload, 1) := by decide +kernel
theorem dX10_store_47 : decode cX10_store 47 = .ok (.invokestatic 196, 3) := by decide +kernel
theorem dX10_store_50 : decode cX10_store 50 = .ok (.aload_n 2, 1) := by decide +kernel
theorem dX10_store_51 : decode cX10_store 51 = .ok (.getfield 151, 3) := by decide +kernel
theorem dX10_store_54 : decode cX10_store 54 = .ok (.iload_n 1, 1) := by decide +kernel
theorem dX10_store_55 : decode cX10_store 55 = .ok (.iaload, 1) := by decide +kernel
theorem dX10_store_56 : decode cX10_store 56 = .ok (.iadd, 1) := by decide +kernel
theorem dX10_store_57 : decode cX10_store 57 = .ok (.istore 4, 2) := by decide +kernel
theorem dX10_store_59 : decode cX10_store 59 = .ok (.iload 4, 2) := by decide +kernel
theorem dX10_store_61 : decode cX10_store 61 = .ok (.sipush 999, 3) := by decide +kernel
theorem dX10_store_64 : decode cX10_store 64 = .ok (.if_icmp .le 6, 3) := by decide +kernel
theorem dX10_store_67 : decode cX10_store 67 = .ok (.bipush (-5), 2) := by decide +kernel
theorem dX10_store_69 : decode cX10_store 69 = .ok (.ireturn, 1) := by decide +kernel
theorem dX10_store_70 : decode cX10_store 70 = .ok (.aload_n 0, 1) := by decide +kernel
theorem dX10_store_71 : decode cX10_store 71 = .ok (.getfield 26, 3) := by decide +kernel
theorem dX10_store_74 : decode cX10_store 74 = .ok (.invokevirtual 176, 3) := by decide +kernel
theorem dX10_store_77 : decode cX10_store 77 = .ok (.aload_n 2, 1) := by decide +kernel
theorem dX10_store_78 : decode cX10_store 78 = .ok (.getfield 105, 3) := by decide +kernel
theorem dX10_store_81 : decode cX10_store 81 = .ok (.iload_n 3, 1) := by decide +kernel
theorem dX10_store_82 : decode cX10_store 82 = .ok (.iload 4, 2) := by decide +kernel
theorem dX10_store_84 : decode cX10_store 84 = .ok (.iastore, 1) := by decide +kernel
theorem dX10_store_85 : decode cX10_store 85 = .ok (.aload_n 2, 1) := by decide +kernel
theorem dX10_store_86 : decode cX10_store 86 = .ok (.getfield 151, 3) := by decide +kernel
theorem dX10_store_89 : decode cX10_store 89 = .ok (.iload_n 1, 1) := by decide +kernel
theorem dX10_store_90 : decode cX10_store 90 = .ok (.iconst 0, 1) := by decide +kernel
theorem dX10_store_91 : decode cX10_store 91 = .ok (.iastore, 1) := by decide +kernel
theorem dX10_store_92 : decode cX10_store 92 = .ok (.iload 4, 2) := by decide +kernel
theorem dX10_store_94 : decode cX10_store 94 = .ok (.ireturn, 1) := by decide +kernel
set_option maxRecDepth 20000 in
theorem ggX10_take_X1_hasCart : GoodIn wsX10_take wsX1_hasCart := goodIn_r _ [11, 12, 76, 77, 78, 79, 80, 81, 82, 83, 84, 85, 86, 87] (by decide +kernel) (by decide +kernel)
set_option maxRecDepth 20000 in
theorem gX10_take_X1_hasCart : GoodIn wsX10_take (wsV RX10 136 RX1 yX1_hasCart wsX1_hasCart) := goodIn_app (goodIn_of _ (by decide +kernel)) ggX10_take_X1_hasCart
set_option maxRecDepth 20000 in
theorem ggX10_take_X10_within : GoodIn wsX10_take wsX10_within := goodIn_r _ [16] (by decide +kernel) (by decide +kernel)
set_option maxRecDepth 20000 in
theorem gX10_take_X10_within : GoodIn wsX10_take (va_wsS RX10 64 yX10_within wsX10_within) := goodIn_app (goodIn_of _ (by decide +kernel)) ggX10_take_X10_within
set_option maxRecDepth 20000 in
theorem ggX10_take_X10_isIn : GoodIn wsX10_take wsX10_isIn := goodIn_r _ [20, 1, 21, 2, 3, 4, 56, 57, 58, 59, 60, 61, 62, 63, 64, 76, 77, 78, 79, 80, 81, 82, 83, 84, 85, 86, 87, 65, 66, 67, 68, 69, 70, 71, 72, 73, 74, 75] (by decide +kernel) (by decide +kernel)
set_option maxRecDepth 20000 in
theorem gX10_take_X10_isIn : GoodIn wsX10_take (wsV RX10 173 RX10 yX10_isIn wsX10_isIn) := goodIn_app (goodIn_of _ (by decide +kernel)) ggX10_take_X10_isIn
set_option maxRecDepth 20000 in
theorem ggX10_take_X3_opened : GoodIn wsX10_take wsX3_opened := goodIn_r _ [25, 26, 27, 24, 28] (by decide +kernel) (by decide +kernel)
set_option maxRecDepth 20000 in
theorem gX10_take_X3_opened : GoodIn wsX10_take (va_wsS RX10 196 yX3_opened wsX3_opened) := goodIn_app (goodIn_of _ (by decide +kernel)) ggX10_take_X3_opened
set_option maxRecDepth 20000 in
theorem ggX10_take_X0_remember : GoodIn wsX10_take wsX0_remember := goodIn_r _ [33, 34, 35, 36, 37, 38, 39, 40, 41, 42, 43, 44, 45, 46, 47, 48, 49, 50, 51, 52, 53, 54, 55, 65, 66, 67, 68, 69, 70, 71, 72, 73, 74, 75] (by decide +kernel) (by decide +kernel)
set_option maxRecDepth 20000 in
theorem gX10_take_X0_remember : GoodIn wsX10_take (wsV RX10 176 RX0 yX0_remember wsX0_remember) := goodIn_app (goodIn_of _ (by decide +kernel)) ggX10_take_X0_remember
theorem dX10_take_0 : decode cX10_take 0 = .ok (.aload_n 0, 1) := by decide +kernel
theorem dX10_take_1 : decode cX10_take 1 = .ok (.getfield 19, 3) := by decide +kernel
theorem dX10_take_4 : decode cX10_take 4 = .ok (.iload_n 1, 1) := by decide +kernel
theorem dX10_take_5 : decode cX10_take 5 = .ok (.invokevirtual 136, 3) := by decide +kernel
theorem dX10_take_8 : decode cX10_take 8 = .ok (.ifCond .ne 6, 3) := by decide +kernel
theorem dX10_take_11 : decode cX10_take 11 = .ok (.bipush (-2), 2) := by decide +kernel
theorem dX10_take_13 : decode cX10_take 13 = .ok (.ireturn, 1) := by decide +kernel
theorem dX10_take_14 : decode cX10_take 14 = .ok (.iload_n 2, 1) := by decide +kernel
theorem dX10_take_15 : decode cX10_take 15 = .ok (.iconst 1, 1) := by decide +kernel
theorem dX10_take_16 : decode cX10_take 16 = .ok (.bipush 99, 2) := by decide +kernel
theorem dX10_take_18 : decode cX10_take 18 = .ok (.invokestatic 64, 3) := by decide +kernel
theorem dX10_take_21 : decode cX10_take 21 = .ok (.ifCond .ne 6, 3) := by decide +kernel
theorem dX10_take_24 : decode cX10_take 24 = .ok (.bipush (-3), 2) := by decide +kernel
theorem dX10_take_26 : decode cX10_take 26 = .ok (.ireturn, 1) := by decide +kernel
theorem dX10_take_27 : decode cX10_take 27 = .ok (.aload_n 0, 1) := by decide +kernel
theorem dX10_take_28 : decode cX10_take 28 = .ok (.iload_n 1, 1) := by decide +kernel
theorem dX10_take_29 : decode cX10_take 29 = .ok (.iconst 2, 1) := by decide +kernel
theorem dX10_take_30 : decode cX10_take 30 = .ok (.invokevirtual 173, 3) := by decide +kernel
theorem dX10_take_33 : decode cX10_take 33 = .ok (.ifCond .ne 6, 3) := by decide +kernel
theorem dX10_take_36 : decode cX10_take 36 = .ok (.bipush (-4), 2) := by decide +kernel
theorem dX10_take_38 : decode cX10_take 38 = .ok (.ireturn, 1) := by decide +kernel
theorem dX10_take_39 : decode cX10_take 39 = .ok (.aload_n 0, 1) := by decide +kernel
theorem dX10_take_40 : decode cX10_take 40 = .ok (.getfield 26, 3) := by decide +kernel
theorem dX10_take_43 : decode cX10_take 43 = .ok (.getfield 101, 3) := by decide +kernel
theorem dX10_take_46 : decode cX10_take 46 = .ok (.astore_n 3, 1) := by decide +kernel
theorem dX10_take_47 : decode cX10_take 47 = .ok (.aload_n 3, 1) := by decide +kernel
theorem dX10_take_48 : decode cX10_take 48 = .ok (.getfield 145, 3) := by decide +kernel
theorem dX10_take_51 : decode cX10_take 51 = .ok (.iload_n 1, 1) := by decide +kernel
theorem dX10_take_52 : decode cX10_take 52 = .ok (.iaload, 1) := by decide +kernel
theorem dX10_take_53 : decode cX10_take 53 = .ok (.istore 4, 2) := by decide +kernel
theorem dX10_take_55 : decode cX10_take 55 = .ok (.aload_n 3, 1) := by decide +kernel
theorem dX10_take_56 : decode cX10_take 56 = .ok (.getfield 105, 3) := by decide +kernel
theorem dX10_take_59 : decode cX10_take 59 = .ok (.iload 4, 2) := by decide +kernel
theorem dX10_take_61 : decode cX10_take 61 = .ok (.iaload, 1) := by decide +kernel
theorem dX10_take_62 : decode cX10_take 62 = .ok (.invokestatic 196, 3) := by decide +kernel
theorem dX10_take_65 : decode cX10_take 65 = .ok (.istore 5, 2) := by decide +kernel
theorem dX10_take_67 : decode cX10_take 67 = .ok (.iload 5, 2) := by decide +kernel
theorem dX10_take_69 : decode cX10_take 69 = .ok (.iload_n 2, 1) := by decide +kernel
theorem dX10_take_70 : decode cX10_take 70 = .ok (.if_icmp .ge 6, 3) := by decide +kernel
theorem dX10_take_73 : decode cX10_take 73 = .ok (.bipush (-4), 2) := by decide +kernel
theorem dX10_take_75 : decode cX10_take 75 = .ok (.ireturn, 1) := by decide +kernel
theorem dX10_take_76 : decode cX10_take 76 = .ok (.aload_n 3, 1) := by decide +kernel
theorem dX10_take_77 : decode cX10_take 77 = .ok (.getfield 151, 3) := by decide +kernel
theorem dX10_take_80 : decode cX10_take 80 = .ok (.iload_n 1, 1) := by decide +kernel
theorem dX10_take_81 : decode cX10_take 81 = .ok (.iaload, 1) := by decide +kernel
theorem dX10_take_82 : decode cX10_take 82 = .ok (.iload_n 2, 1) := by decide +kernel
theorem dX10_take_83 : decode cX10_take 83 = .ok (.iadd, 1) := by decide +kernel
theorem dX10_take_84 : decode cX10_take 84 = .ok (.bipush 99, 2) := by decide +kernel
theorem dX10_take_86 : decode cX10_take 86 = .ok (.if_icmp .le 6, 3) := by decide +kernel
theorem dX10_take_89 : decode cX10_take 89 = .ok (.bipush (-5), 2) := by decide +kernel
theorem dX10_take_91 : decode cX10_take 91 = .ok (.ireturn, 1) := by decide +kernel
theorem dX10_take_92 : decode cX10_take 92 = .ok (.aload_n 0, 1) := by decide +kernel
theorem dX10_take_93 : decode cX10_take 93 = .ok (.getfield 26, 3) := by decide +kernel
theorem dX10_take_96 : decode cX10_take 96 = .ok (.invokevirtual 176, 3) := by decide +kernel
theorem dX10_take_99 : decode cX10_take 99 = .ok (.aload_n 3, 1) := by decide +kernel
theorem dX10_take_100 : decode cX10_take 100 = .ok (.getfield 105, 3) := by decide +kernel
theorem dX10_take_103 : decode cX10_take 103 = .ok (.iload 4, 2) := by decide +kernel
theorem dX10_take_105 : decode cX10_take 105 = .ok (.iload 5, 2) := by decide +kernel
theorem dX10_take_107 : decode cX10_take 107 = .ok (.iload_n 2, 1) := by decide +kernel
theorem dX10_take_108 : decode cX10_take 108 = .ok (.isub, 1) := by decide +kernel
theorem dX10_take_109 : decode cX10_take 109 = .ok (.iastore, 1) := by decide +kernel
theorem dX10_take_110 : decode cX10_take 110 = .ok (.aload_n 3, 1) := by decide +kernel
theorem dX10_take_111 : decode cX10_take 111 = .ok (.getfield 151, 3) := by decide +kernel
theorem dX10_take_114 : decode cX10_take 114 = .ok (.iload_n 1, 1) := by decide +kernel
theorem dX10_take_115 : decode cX10_take 115 = .ok (.dup2, 1) := by decide +kernel
theorem dX10_take_116 : decode cX10_take 116 = .ok (.iaload, 1) := by decide +kernel
theorem dX10_take_117 : decode cX10_take 117 = .ok (.iload_n 2, 1) := by decide +kernel
theorem dX10_take_118 : decode cX10_take 118 = .ok (.iadd, 1) := by decide +kernel
theorem dX10_take_119 : decode cX10_take 119 = .ok (.iastore, 1) := by decide +kernel
theorem dX10_take_120 : decode cX10_take 120 = .ok (.aload_n 3, 1) := by decide +kernel
theorem dX10_take_121 : decode cX10_take 121 = .ok (.getfield 151, 3) := by decide +kernel
theorem dX10_take_124 : decode cX10_take 124 = .ok (.iload_n 1, 1) := by decide +kernel
theorem dX10_take_125 : decode cX10_take 125 = .ok (.iaload, 1) := by decide +kernel
theorem dX10_take_126 : decode cX10_take 126 = .ok (.ireturn, 1) := by decide +kernel
set_option maxRecDepth 20000 in
theorem ggX10_sell_X1_hasCart : GoodIn wsX10_sell wsX1_hasCart := goodIn_r _ [11, 12, 71, 72, 73, 74, 75, 76, 77, 78, 79, 80, 81, 82] (by decide +kernel) (by decide +kernel)
set_option maxRecDepth 20000 in
theorem gX10_sell_X1_hasCart : GoodIn wsX10_sell (wsV RX10 136 RX1 yX1_hasCart wsX1_hasCart) := goodIn_app (goodIn_of _ (by decide +kernel)) ggX10_sell_X1_hasCart
set_option maxRecDepth 20000 in
theorem ggX10_sell_X10_isIn : GoodIn wsX10_sell wsX10_isIn := goodIn_r _ [17, 1, 18, 2, 3, 19, 51, 52, 53, 54, 55, 56, 57, 58, 59, 71, 72, 73, 74, 75, 76, 77, 78, 79, 80, 81, 82, 60, 61, 62, 63, 64, 65, 66, 67, 68, 69, 70] (by decide +kernel) (by decide +kernel)
set_option maxRecDepth 20000 in
theorem gX10_sell_X10_isIn : GoodIn wsX10_sell (wsV RX10 173 RX10 yX10_isIn wsX10_isIn) := goodIn_app (goodIn_of _ (by decide +kernel)) ggX10_sell_X10_isIn
set_option maxRecDepth 20000 in
theorem ggX10_sell_X2_priceIn : GoodIn wsX10_sell wsX2_priceIn := goodIn_r _ [23] (by decide +kernel) (by decide +kernel)
set_option maxRecDepth 20000 in
theorem gX10_sell_X2_priceIn : GoodIn wsX10_sell (va_wsS RX10 168 yX2_priceIn wsX2_priceIn) := goodIn_app (goodIn_of _ (by decide +kernel)) ggX10_sell_X2_priceIn
set_option maxRecDepth 20000 in
theorem ggX10_sell_X0_remember : GoodIn wsX10_sell wsX0_remember := goodIn_r _ [28, 29, 30, 31, 32, 33, 34, 35, 36, 37, 38, 39, 40, 41, 42, 43, 44, 45, 46, 47, 48, 49, 50, 60, 61, 62, 63, 64, 65, 66, 67, 68, 69, 70] (by decide +kernel) (by decide +kernel)
set_option maxRecDepth 20000 in
theorem gX10_sell_X0_remember : GoodIn wsX10_sell (wsV RX10 176 RX0 yX0_remember wsX0_remember) := goodIn_app (goodIn_of _ (by decide +kernel)) ggX10_sell_X0_remember
theorem dX10_sell_0 : decode cX10_sell 0 = .ok (.aload_n 0, 1) := by decide +kernel
theorem dX10_sell_1 : decode cX10_sell 1 = .ok (.getfield 19, 3) := by decide +kernel
theorem dX10_sell_4 : decode cX10_sell 4 = .ok (.iload_n 1, 1) := by decide +kernel
theorem dX10_sell_5 : decode cX10_sell 5 = .ok (.invokevirtual 136, 3) := by decide +kernel
theorem dX10_sell_8 : decode cX10_sell 8 = .ok (.ifCond .ne 6, 3) := by decide +kernel
theorem dX10_sell_11 : decode cX10_sell 11 = .ok (.bipush (-2), 2) := by decide +kernel
theorem dX10_sell_13 : decode cX10_sell 13 = .ok (.ireturn, 1) := by decide +kernel
theorem dX10_sell_14 : decode cX10_sell 14 = .ok (.aload_n 0, 1) := by decide +kernel
theorem dX10_sell_15 : decode cX10_sell 15 = .ok (.iload_n 1, 1) := by decide +kernel
theorem dX10_sell_16 : decode cX10_sell 16 = .ok (.iconst 3, 1) := by decide +kernel
theorem dX10_sell_17 : decode cX10_sell 17 = .ok (.invokevirtual 173, 3) := by decide +kernel
theorem dX10_sell_20 : decode cX10_sell 20 = .ok (.ifCond .ne 6, 3) := by decide +kernel
theorem dX10_sell_23 : decode cX10_sell 23 = .ok (.bipush (-4), 2) := by decide +kernel
theorem dX10_sell_25 : decode cX10_sell 25 = .ok (.ireturn, 1) := by decide +kernel
theorem dX10_sell_26 : decode cX10_sell 26 = .ok (.aload_n 0, 1) := by decide +kernel
theorem dX10_sell_27 : decode cX10_sell 27 = .ok (.getfield 26, 3) := by decide +kernel
theorem dX10_sell_30 : decode cX10_sell 30 = .ok (.getfield 101, 3) := by decide +kernel
theorem dX10_sell_33 : decode cX10_sell 33 = .ok (.astore_n 2, 1) := by decide +kernel
theorem dX10_sell_34 : decode cX10_sell 34 = .ok (.aload_n 2, 1) := by decide +kernel
theorem dX10_sell_35 : decode cX10_sell 35 = .ok (.getfield 151, 3) := by decide +kernel
theorem dX10_sell_38 : decode cX10_sell 38 = .ok (.iload_n 1, 1) := by decide +kernel
theorem dX10_sell_39 : decode cX10_sell 39 = .ok (.iaload, 1) := by decide +kernel
theorem dX10_sell_40 : decode cX10_sell 40 = .ok (.aload_n 2, 1) := by decide +kernel
theorem dX10_sell_41 : decode cX10_sell 41 = .ok (.getfield 148, 3) := by decide +kernel
theorem dX10_sell_44 : decode cX10_sell 44 = .ok (.iload_n 1, 1) := by decide +kernel
theorem dX10_sell_45 : decode cX10_sell 45 = .ok (.iaload, 1) := by decide +kernel
theorem dX10_sell_46 : decode cX10_sell 46 = .ok (.invokestatic 168, 3) := by decide +kernel
theorem dX10_sell_49 : decode cX10_sell 49 = .ok (.imul, 1) := by decide +kernel
theorem dX10_sell_50 : decode cX10_sell 50 = .ok (.istore_n 3, 1) := by decide +kernel
theorem dX10_sell_51 : decode cX10_sell 51 = .ok (.aload_n 0, 1) := by decide +kernel
theorem dX10_sell_52 : decode cX10_sell 52 = .ok (.getfield 26, 3) := by decide +kernel
theorem dX10_sell_55 : decode cX10_sell 55 = .ok (.invokevirtual 176, 3) := by decide +kernel
theorem dX10_sell_58 : decode cX10_sell 58 = .ok (.aload_n 2, 1) := by decide +kernel
theorem dX10_sell_59 : decode cX10_sell 59 = .ok (.getfield 151, 3) := by decide +kernel
