theorem dX5_leave_57 : decode cX5_leave 57 = .ok (.if_icmp .gt 29, 3) := by decide +kernel
theorem dX5_leave_60 : decode cX5_leave 60 = .ok (.aload_n 0, 1) := by decide +kernel
theorem dX5_leave_61 : decode cX5_leave 61 = .ok (.aload_n 1, 1) := by decide +kernel
theorem dX5_leave_62 : decode cX5_leave 62 = .ok (.iload 7, 2) := by decide +kernel
theorem dX5_leave_64 : decode cX5_leave 64 = .ok (.iload_n 2, 1) := by decide +kernel
theorem dX5_leave_65 : decode cX5_leave 65 = .ok (.invokevirtual 54, 3) := by decide +kernel
theorem dX5_leave_68 : decode cX5_leave 68 = .ok (.iload 8, 2) := by decide +kernel
theorem dX5_leave_70 : decode cX5_leave 70 = .ok (.aload_n 1, 1) := by decide +kernel
theorem dX5_leave_71 : decode cX5_leave 71 = .ok (.iload 7, 2) := by decide +kernel
theorem dX5_leave_73 : decode cX5_leave 73 = .ok (.iload 4, 2) := by decide +kernel
theorem dX5_leave_75 : decode cX5_leave 75 = .ok (.iload_n 3, 1) := by decide +kernel
theorem dX5_leave_76 : decode cX5_leave 76 = .ok (.iload 5, 2) := by decide +kernel
theorem dX5_leave_78 : decode cX5_leave 78 = .ok (.iload 6, 2) := by decide +kernel
theorem dX5_leave_80 : decode cX5_leave 80 = .ok (.invokevirtual 58, 3) := by decide +kernel
theorem dX5_leave_83 : decode cX5_leave 83 = .ok (.invokevirtual 39, 3) := by decide +kernel
theorem dX5_leave_86 : decode cX5_leave 86 = .ok (.iinc 7 1, 3) := by decide +kernel
theorem dX5_leave_89 : decode cX5_leave 89 = .ok (.goto (-66), 3) := by decide +kernel
theorem dX5_leave_92 : decode cX5_leave 92 = .ok (.return_, 1) := by decide +kernel
set_option maxRecDepth 20000 in
theorem ggX5_joinOf_X5_clear : GoodIn wsX5_joinOf wsX5_clear := goodIn_r _ [6, 1, 7, 8, 9, 10, 11] (by decide +kernel) (by decide +kernel)
set_option maxRecDepth 20000 in
theorem gX5_joinOf_X5_clear : GoodIn wsX5_joinOf (wsV RX5 61 RX5 yX5_clear wsX5_clear) := goodIn_app (goodIn_of _ (by decide +kernel)) ggX5_joinOf_X5_clear
theorem dX5_joinOf_0 : decode cX5_joinOf 0 = .ok (.aload_n 0, 1) := by decide +kernel
theorem dX5_joinOf_1 : decode cX5_joinOf 1 = .ok (.invokevirtual 61, 3) := by decide +kernel
theorem dX5_joinOf_4 : decode cX5_joinOf 4 = .ok (.iconst 0, 1) := by decide +kernel
theorem dX5_joinOf_5 : decode cX5_joinOf 5 = .ok (.istore 4, 2) := by decide +kernel
theorem dX5_joinOf_7 : decode cX5_joinOf 7 = .ok (.iload 4, 2) := by decide +kernel
theorem dX5_joinOf_9 : decode cX5_joinOf 9 = .ok (.iload_n 3, 1) := by decide +kernel
theorem dX5_joinOf_10 : decode cX5_joinOf 10 = .ok (.if_icmp .ge 99, 3) := by decide +kernel
theorem dX5_joinOf_13 : decode cX5_joinOf 13 = .ok (.iload 4, 2) := by decide +kernel
theorem dX5_joinOf_15 : decode cX5_joinOf 15 = .ok (.bipush 100, 2) := by decide +kernel
theorem dX5_joinOf_17 : decode cX5_joinOf 17 = .ok (.imul, 1) := by decide +kernel
theorem dX5_joinOf_18 : decode cX5_joinOf 18 = .ok (.istore 5, 2) := by decide +kernel
theorem dX5_joinOf_20 : decode cX5_joinOf 20 = .ok (.iconst 0, 1) := by decide +kernel
theorem dX5_joinOf_21 : decode cX5_joinOf 21 = .ok (.istore 6, 2) := by decide +kernel
theorem dX5_joinOf_23 : decode cX5_joinOf 23 = .ok (.iload 6, 2) := by decide +kernel
theorem dX5_joinOf_25 : decode cX5_joinOf 25 = .ok (.bipush 100, 2) := by decide +kernel
theorem dX5_joinOf_27 : decode cX5_joinOf 27 = .ok (.if_icmp .ge 76, 3) := by decide +kernel
theorem dX5_joinOf_30 : decode cX5_joinOf 30 = .ok (.aload_n 1, 1) := by decide +kernel
theorem dX5_joinOf_31 : decode cX5_joinOf 31 = .ok (.getfield 13, 3) := by decide +kernel
theorem dX5_joinOf_34 : decode cX5_joinOf 34 = .ok (.iload 5, 2) := by decide +kernel
theorem dX5_joinOf_36 : decode cX5_joinOf 36 = .ok (.iload 6, 2) := by decide +kernel
theorem dX5_joinOf_38 : decode cX5_joinOf 38 = .ok (.iadd, 1) := by decide +kernel
theorem dX5_joinOf_39 : decode cX5_joinOf 39 = .ok (.laload, 1) := by decide +kernel
theorem dX5_joinOf_40 : decode cX5_joinOf 40 = .ok (.lstore 7, 2) := by decide +kernel
theorem dX5_joinOf_42 : decode cX5_joinOf 42 = .ok (.iconst 0, 1) := by decide +kernel
theorem dX5_joinOf_43 : decode cX5_joinOf 43 = .ok (.istore 9, 2) := by decide +kernel
theorem dX5_joinOf_45 : decode cX5_joinOf 45 = .ok (.lload 7, 2) := by decide +kernel
theorem dX5_joinOf_47 : decode cX5_joinOf 47 = .ok (.lconst 0, 1) := by decide +kernel
theorem dX5_joinOf_48 : decode cX5_joinOf 48 = .ok (.lcmp, 1) := by decide +kernel
theorem dX5_joinOf_49 : decode cX5_joinOf 49 = .ok (.ifCond .eq 48, 3) := by decide +kernel
theorem dX5_joinOf_52 : decode cX5_joinOf 52 = .ok (.iload 6, 2) := by decide +kernel
theorem dX5_joinOf_54 : decode cX5_joinOf 54 = .ok (.iload 9, 2) := by decide +kernel
theorem dX5_joinOf_56 : decode cX5_joinOf 56 = .ok (.iadd, 1) := by decide +kernel
theorem dX5_joinOf_57 : decode cX5_joinOf 57 = .ok (.bipush 100, 2) := by decide +kernel
theorem dX5_joinOf_59 : decode cX5_joinOf 59 = .ok (.if_icmp .ge 38, 3) := by decide +kernel
theorem dX5_joinOf_62 : decode cX5_joinOf 62 = .ok (.aload_n 0, 1) := by decide +kernel
theorem dX5_joinOf_63 : decode cX5_joinOf 63 = .ok (.getfield 13, 3) := by decide +kernel
theorem dX5_joinOf_66 : decode cX5_joinOf 66 = .ok (.iload 5, 2) := by decide +kernel
theorem dX5_joinOf_68 : decode cX5_joinOf 68 = .ok (.iload 6, 2) := by decide +kernel
theorem dX5_joinOf_70 : decode cX5_joinOf 70 = .ok (.iadd, 1) := by decide +kernel
theorem dX5_joinOf_71 : decode cX5_joinOf 71 = .ok (.iload 9, 2) := by decide +kernel
theorem dX5_joinOf_73 : decode cX5_joinOf 73 = .ok (.iadd, 1) := by decide +kernel
theorem dX5_joinOf_74 : decode cX5_joinOf 74 = .ok (.dup2, 1) := by decide +kernel
theorem dX5_joinOf_75 : decode cX5_joinOf 75 = .ok (.laload, 1) := by decide +kernel
theorem dX5_joinOf_76 : decode cX5_joinOf 76 = .ok (.lload 7, 2) := by decide +kernel
theorem dX5_joinOf_78 : decode cX5_joinOf 78 = .ok (.aload_n 2, 1) := by decide +kernel
theorem dX5_joinOf_79 : decode cX5_joinOf 79 = .ok (.getfield 13, 3) := by decide +kernel
theorem dX5_joinOf_82 : decode cX5_joinOf 82 = .ok (.iload 5, 2) := by decide +kernel
theorem dX5_joinOf_84 : decode cX5_joinOf 84 = .ok (.iload 9, 2) := by decide +kernel
theorem dX5_joinOf_86 : decode cX5_joinOf 86 = .ok (.iadd, 1) := by decide +kernel
theorem dX5_joinOf_87 : decode cX5_joinOf 87 = .ok (.laload, 1) := by decide +kernel
theorem dX5_joinOf_88 : decode cX5_joinOf 88 = .ok (.land, 1) := by decide +kernel
theorem dX5_joinOf_89 : decode cX5_joinOf 89 = .ok (.lor, 1) := by decide +kernel
theorem dX5_joinOf_90 : decode cX5_joinOf 90 = .ok (.lastore, 1) := by decide +kernel
theorem dX5_joinOf_91 : decode cX5_joinOf 91 = .ok (.iinc 9 1, 3) := by decide +kernel
theorem dX5_joinOf_94 : decode cX5_joinOf 94 = .ok (.goto (-49), 3) := by decide +kernel
theorem dX5_joinOf_97 : decode cX5_joinOf 97 = .ok (.iinc 6 1, 3) := by decide +kernel
theorem dX5_joinOf_100 : decode cX5_joinOf 100 = .ok (.goto (-77), 3) := by decide +kernel
theorem dX5_joinOf_103 : decode cX5_joinOf 103 = .ok (.iinc 4 1, 3) := by decide +kernel
theorem dX5_joinOf_106 : decode cX5_joinOf 106 = .ok (.goto (-99), 3) := by decide +kernel
theorem dX5_joinOf_109 : decode cX5_joinOf 109 = .ok (.return_, 1) := by decide +kernel
theorem dX5_mostIn_0 : decode cX5_mostIn 0 = .ok (.bipush 99, 2) := by decide +kernel
theorem dX5_mostIn_2 : decode cX5_mostIn 2 = .ok (.istore_n 2, 1) := by decide +kernel
theorem dX5_mostIn_3 : decode cX5_mostIn 3 = .ok (.iload_n 2, 1) := by decide +kernel
theorem dX5_mostIn_4 : decode cX5_mostIn 4 = .ok (.ifCond .lt 27, 3) := by decide +kernel
theorem dX5_mostIn_7 : decode cX5_mostIn 7 = .ok (.aload_n 0, 1) := by decide +kernel
theorem dX5_mostIn_8 : decode cX5_mostIn 8 = .ok (.getfield 13, 3) := by decide +kernel
theorem dX5_mostIn_11 : decode cX5_mostIn 11 = .ok (.iload_n 1, 1) := by decide +kernel
theorem dX5_mostIn_12 : decode cX5_mostIn 12 = .ok (.bipush 100, 2) := by decide +kernel
theorem dX5_mostIn_14 : decode cX5_mostIn 14 = .ok (.imul, 1) := by decide +kernel
theorem dX5_mostIn_15 : decode cX5_mostIn 15 = .ok (.iload_n 2, 1) := by decide +kernel
theorem dX5_mostIn_16 : decode cX5_mostIn 16 = .ok (.iadd, 1) := by decide +kernel
theorem dX5_mostIn_17 : decode cX5_mostIn 17 = .ok (.laload, 1) := by decide +kernel
theorem dX5_mostIn_18 : decode cX5_mostIn 18 = .ok (.lconst 0, 1) := by decide +kernel
theorem dX5_mostIn_19 : decode cX5_mostIn 19 = .ok (.lcmp, 1) := by decide +kernel
theorem dX5_mostIn_20 : decode cX5_mostIn 20 = .ok (.ifCond .eq 5, 3) := by decide +kernel
theorem dX5_mostIn_23 : decode cX5_mostIn 23 = .ok (.iload_n 2, 1) := by decide +kernel
theorem dX5_mostIn_24 : decode cX5_mostIn 24 = .ok (.ireturn, 1) := by decide +kernel
theorem dX5_mostIn_25 : decode cX5_mostIn 25 = .ok (.iinc 2 (-1), 3) := by decide +kernel
theorem dX5_mostIn_28 : decode cX5_mostIn 28 = .ok (.goto (-25), 3) := by decide +kernel
theorem dX5_mostIn_31 : decode cX5_mostIn 31 = .ok (.iconst (-1), 1) := by decide +kernel
theorem dX5_mostIn_32 : decode cX5_mostIn 32 = .ok (.ireturn, 1) := by decide +kernel
set_option maxRecDepth 20000 in
theorem ggX5_soonestOfMost_X5_mostIn : GoodIn wsX5_soonestOfMost wsX5_mostIn := goodIn_r _ [6, 1, 7] (by decide +kernel) (by decide +kernel)
set_option maxRecDepth 20000 in
theorem gX5_soonestOfMost_X5_mostIn : GoodIn wsX5_soonestOfMost (wsV RX5 64 RX5 yX5_mostIn wsX5_mostIn) := goodIn_app (goodIn_of _ (by decide +kernel)) ggX5_soonestOfMost_X5_mostIn
theorem dX5_soonestOfMost_0 : decode cX5_soonestOfMost 0 = .ok (.aload_n 0, 1) := by decide +kernel
theorem dX5_soonestOfMost_1 : decode cX5_soonestOfMost 1 = .ok (.iload_n 1, 1) := by decide +kernel
theorem dX5_soonestOfMost_2 : decode cX5_soonestOfMost 2 = .ok (.invokevirtual 64, 3) := by decide +kernel
theorem dX5_soonestOfMost_5 : decode cX5_soonestOfMost 5 = .ok (.istore_n 2, 1) := by decide +kernel
theorem dX5_soonestOfMost_6 : decode cX5_soonestOfMost 6 = .ok (.iload_n 2, 1) := by decide +kernel
theorem dX5_soonestOfMost_7 : decode cX5_soonestOfMost 7 = .ok (.iconst (-1), 1) := by decide +kernel
theorem dX5_soonestOfMost_8 : decode cX5_soonestOfMost 8 = .ok (.if_icmp .ne 5, 3) := by decide +kernel
theorem dX5_soonestOfMost_11 : decode cX5_soonestOfMost 11 = .ok (.iconst (-1), 1) := by decide +kernel
theorem dX5_soonestOfMost_12 : decode cX5_soonestOfMost 12 = .ok (.ireturn, 1) := by decide +kernel
theorem dX5_soonestOfMost_13 : decode cX5_soonestOfMost 13 = .ok (.aload_n 0, 1) := by decide +kernel
theorem dX5_soonestOfMost_14 : decode cX5_soonestOfMost 14 = .ok (.getfield 13, 3) := by decide +kernel
theorem dX5_soonestOfMost_17 : decode cX5_soonestOfMost 17 = .ok (.iload_n 1, 1) := by decide +kernel
theorem dX5_soonestOfMost_18 : decode cX5_soonestOfMost 18 = .ok (.bipush 100, 2) := by decide +kernel
theorem dX5_soonestOfMost_20 : decode cX5_soonestOfMost 20 = .ok (.imul, 1) := by decide +kernel
theorem dX5_soonestOfMost_21 : decode cX5_soonestOfMost 21 = .ok (.iload_n 2, 1) := by decide +kernel
theorem dX5_soonestOfMost_22 : decode cX5_soonestOfMost 22 = .ok (.iadd, 1) := by decide +kernel
theorem dX5_soonestOfMost_23 : decode cX5_soonestOfMost 23 = .ok (.laload, 1) := by decide +kernel
theorem dX5_soonestOfMost_24 : decode cX5_soonestOfMost 24 = .ok (.lstore_n 3, 1) := by decide +kernel
theorem dX5_soonestOfMost_25 : decode cX5_soonestOfMost 25 = .ok (.iconst 0, 1) := by decide +kernel
theorem dX5_soonestOfMost_26 : decode cX5_soonestOfMost 26 = .ok (.istore 5, 2) := by decide +kernel
theorem dX5_soonestOfMost_28 : decode cX5_soonestOfMost 28 = .ok (.iload 5, 2) := by decide +kernel
theorem dX5_soonestOfMost_30 : decode cX5_soonestOfMost 30 = .ok (.bipush 48, 2) := by decide +kernel
theorem dX5_soonestOfMost_32 : decode cX5_soonestOfMost 32 = .ok (.if_icmp .gt 23, 3) := by decide +kernel
theorem dX5_soonestOfMost_35 : decode cX5_soonestOfMost 35 = .ok (.lload_n 3, 1) := by decide +kernel
theorem dX5_soonestOfMost_36 : decode cX5_soonestOfMost 36 = .ok (.iload 5, 2) := by decide +kernel
theorem dX5_soonestOfMost_38 : decode cX5_soonestOfMost 38 = .ok (.lshr, 1) := by decide +kernel
theorem dX5_soonestOfMost_39 : decode cX5_soonestOfMost 39 = .ok (.lconst 1, 1) := by decide +kernel
theorem dX5_soonestOfMost_40 : decode cX5_soonestOfMost 40 = .ok (.land, 1) := by decide +kernel
theorem dX5_soonestOfMost_41 : decode cX5_soonestOfMost 41 = .ok (.lconst 0, 1) := by decide +kernel
theorem dX5_soonestOfMost_42 : decode cX5_soonestOfMost 42 = .ok (.lcmp, 1) := by decide +kernel
theorem dX5_soonestOfMost_43 : decode cX5_soonestOfMost 43 = .ok (.ifCond .eq 6, 3) := by decide +kernel
theorem dX5_soonestOfMost_46 : decode cX5_soonestOfMost 46 = .ok (.iload 5, 2) := by decide +kernel
theorem dX5_soonestOfMost_48 : decode cX5_soonestOfMost 48 = .ok (.ireturn, 1) := by decide +kernel
theorem dX5_soonestOfMost_49 : decode cX5_soonestOfMost 49 = .ok (.iinc 5 1, 3) := by decide +kernel
theorem dX5_soonestOfMost_52 : decode cX5_soonestOfMost 52 = .ok (.goto (-24), 3) := by decide +kernel
theorem dX5_soonestOfMost_55 : decode cX5_soonestOfMost 55 = .ok (.iconst (-1), 1) := by decide +kernel
theorem dX5_soonestOfMost_56 : decode cX5_soonestOfMost 56 = .ok (.ireturn, 1) := by decide +kernel
theorem dX5_unlikeIn_0 : decode cX5_unlikeIn 0 = .ok (.iconst 0, 1) := by decide +kernel
theorem dX5_unlikeIn_1 : decode cX5_unlikeIn 1 = .ok (.istore_n 2, 1) := by decide +kernel
theorem dX5_unlikeIn_2 : decode cX5_unlikeIn 2 = .ok (.iconst 0, 1) := by decide +kernel
theorem dX5_unlikeIn_3 : decode cX5_unlikeIn 3 = .ok (.istore_n 3, 1) := by decide +kernel
theorem dX5_unlikeIn_4 : decode cX5_unlikeIn 4 = .ok (.iload_n 3, 1) := by decide +kernel
theorem dX5_unlikeIn_5 : decode cX5_unlikeIn 5 = .ok (.bipush 99, 2) := by decide +kernel
theorem dX5_unlikeIn_7 : decode cX5_unlikeIn 7 = .ok (.if_icmp .gt 28, 3) := by decide +kernel
theorem dX5_unlikeIn_10 : decode cX5_unlikeIn 10 = .ok (.aload_n 0, 1) := by decide +kernel
theorem dX5_unlikeIn_11 : decode cX5_unlikeIn 11 = .ok (.getfield 13, 3) := by decide +kernel
theorem dX5_unlikeIn_14 : decode cX5_unlikeIn 14 = .ok (.iload_n 1, 1) := by decide +kernel
theorem dX5_unlikeIn_15 : decode cX5_unlikeIn 15 = .ok (.bipush 100, 2) := by decide +kernel
theorem dX5_unlikeIn_17 : decode cX5_unlikeIn 17 = .ok (.imul, 1) := by decide +kernel
theorem dX5_unlikeIn_18 : decode cX5_unlikeIn 18 = .ok (.iload_n 3, 1) := by decide +kernel
theorem dX5_unlikeIn_19 : decode cX5_unlikeIn 19 = .ok (.iadd, 1) := by decide +kernel
theorem dX5_unlikeIn_20 : decode cX5_unlikeIn 20 = .ok (.laload, 1) := by decide +kernel
theorem dX5_unlikeIn_21 : decode cX5_unlikeIn 21 = .ok (.lconst 0, 1) := by decide +kernel
theorem dX5_unlikeIn_22 : decode cX5_unlikeIn 22 = .ok (.lcmp, 1) := by decide +kernel
theorem dX5_unlikeIn_23 : decode cX5_unlikeIn 23 = .ok (.ifCond .eq 6, 3) := by decide +kernel
theorem dX5_unlikeIn_26 : decode cX5_unlikeIn 26 = .ok (.iinc 2 1, 3) := by decide +kernel
theorem dX5_unlikeIn_29 : decode cX5_unlikeIn 29 = .ok (.iinc 3 1, 3) := by decide +kernel
theorem dX5_unlikeIn_32 : decode cX5_unlikeIn 32 = .ok (.goto (-28), 3) := by decide +kernel
theorem dX5_unlikeIn_35 : decode cX5_unlikeIn 35 = .ok (.iload_n 2, 1) := by decide +kernel
theorem dX5_unlikeIn_36 : decode cX5_unlikeIn 36 = .ok (.ifCond .ne 7, 3) := by decide +kernel
theorem dX5_unlikeIn_39 : decode cX5_unlikeIn 39 = .ok (.iconst (-1), 1) := by decide +kernel
theorem dX5_unlikeIn_40 : decode cX5_unlikeIn 40 = .ok (.goto 4, 3) := by decide +kernel
theorem dX5_unlikeIn_43 : decode cX5_unlikeIn 43 = .ok (.iload_n 2, 1) := by decide +kernel
theorem dX5_unlikeIn_44 : decode cX5_unlikeIn 44 = .ok (.ireturn, 1) := by decide +kernel
theorem dX5_mayHave_0 : decode cX5_mayHave 0 = .ok (.lconst 1, 1) := by decide +kernel
theorem dX5_mayHave_1 : decode cX5_mayHave 1 = .ok (.iload_n 3, 1) := by decide +kernel
theorem dX5_mayHave_2 : decode cX5_mayHave 2 = .ok (.iconst 1, 1) := by decide +kernel
theorem dX5_mayHave_3 : decode cX5_mayHave 3 = .ok (.iadd, 1) := by decide +kernel
theorem dX5_mayHave_4 : decode cX5_mayHave 4 = .ok (.lshl, 1) := by decide +kernel
theorem dX5_mayHave_5 : decode cX5_mayHave 5 = .ok (.lconst 1, 1) := by decide +kernel
theorem dX5_mayHave_6 : decode cX5_mayHave 6 = .ok (.lsub, 1) := by decide +kernel
theorem dX5_mayHave_7 : decode cX5_mayHave 7 = .ok (.lstore 4, 2) := by decide +kernel
theorem dX5_mayHave_9 : decode cX5_mayHave 9 = .ok (.iload_n 2, 1) := by decide +kernel
theorem dX5_mayHave_10 : decode cX5_mayHave 10 = .ok (.istore 6, 2) := by decide +kernel
theorem dX5_mayHave_12 : decode cX5_mayHave 12 = .ok (.iload 6, 2) := by decide +kernel
theorem dX5_mayHave_14 : decode cX5_mayHave 14 = .ok (.bipush 99, 2) := by decide +kernel
theorem dX5_mayHave_16 : decode cX5_mayHave 16 = .ok (.if_icmp .gt 31, 3) := by decide +kernel
theorem dX5_mayHave_19 : decode cX5_mayHave 19 = .ok (.aload_n 0, 1) := by decide +kernel
theorem dX5_mayHave_20 : decode cX5_mayHave 20 = .ok (.getfield 13, 3) := by decide +kernel
theorem dX5_mayHave_23 : decode cX5_mayHave 23 = .ok (.iload_n 1, 1) := by decide +kernel
theorem dX5_mayHave_24 : decode cX5_mayHave 24 = .ok (.bipush 100, 2) := by decide +kernel
theorem dX5_mayHave_26 : decode cX5_mayHave 26 = .ok (.imul, 1) := by decide +kernel
theorem dX5_mayHave_27 : decode cX5_mayHave 27 = .ok (.iload 6, 2) := by decide +kernel
theorem dX5_mayHave_29 : decode cX5_mayHave 29 = .ok (.iadd, 1) := by decide +kernel
theorem dX5_mayHave_30 : decode cX5_mayHave 30 = .ok (.laload, 1) := by decide +kernel
theorem dX5_mayHave_31 : decode cX5_mayHave 31 = .ok (.lload 4, 2) := by decide +kernel
theorem dX5_mayHave_33 : decode cX5_mayHave 33 = .ok (.land, 1) := by decide +kernel
theorem dX5_mayHave_34 : decode cX5_mayHave 34 = .ok (.lconst 0, 1) := by decide +kernel
theorem dX5_mayHave_35 : decode cX5_mayHave 35 = .ok (.lcmp, 1) := by decide +kernel
theorem dX5_mayHave_36 : decode cX5_mayHave 36 = .ok (.ifCond .eq 5, 3) := by decide +kernel
theorem dX5_mayHave_39 : decode cX5_mayHave 39 = .ok (.iconst 1, 1) := by decide +kernel
theorem dX5_mayHave_40 : decode cX5_mayHave 40 = .ok (.ireturn, 1) := by decide +kernel
theorem dX5_mayHave_41 : decode cX5_mayHave 41 = .ok (.iinc 6 1, 3) := by decide +kernel
theorem dX5_mayHave_44 : decode cX5_mayHave 44 = .ok (.goto (-32), 3) := by decide +kernel
theorem dX5_mayHave_47 : decode cX5_mayHave 47 = .ok (.iconst 0, 1) := by decide +kernel
theorem dX5_mayHave_48 : decode cX5_mayHave 48 = .ok (.ireturn, 1) := by decide +kernel
theorem dX6_init_0 : decode cX6_init 0 = .ok (.aload_n 0, 1) := by decide +kernel
theorem dX6_init_1 : decode cX6_init 1 = .ok (.invokespecial 3, 3) := by decide +kernel
theorem dX6_init_4 : decode cX6_init 4 = .ok (.aload_n 0, 1) := by decide +kernel
theorem dX6_init_5 : decode cX6_init 5 = .ok (.sipush 160, 3) := by decide +kernel
theorem dX6_init_8 : decode cX6_init 8 = .ok (.newarray .char, 2) := by decide +kernel
theorem dX6_init_10 : decode cX6_init 10 = .ok (.putfield 11, 3) := by decide +kernel
theorem dX6_init_13 : decode cX6_init 13 = .ok (.aload_n 0, 1) := by decide +kernel
theorem dX6_init_14 : decode cX6_init 14 = .ok (.bipush 14, 2) := by decide +kernel
theorem dX6_init_16 : decode cX6_init 16 = .ok (.newarray .int, 2) := by decide +kernel
theorem dX6_init_18 : decode cX6_init 18 = .ok (.putfield 15, 3) := by decide +kernel
theorem dX6_init_21 : decode cX6_init 21 = .ok (.aload_n 0, 1) := by decide +kernel
theorem dX6_init_22 : decode cX6_init 22 = .ok (.bipush 42, 2) := by decide +kernel
theorem dX6_init_24 : decode cX6_init 24 = .ok (.newarray .int, 2) := by decide +kernel
theorem dX6_init_26 : decode cX6_init 26 = .ok (.putfield 19, 3) := by decide +kernel
theorem dX6_init_29 : decode cX6_init 29 = .ok (.return_, 1) := by decide +kernel
theorem dX6_append_0 : decode cX6_append 0 = .ok (.aload_n 0, 1) := by decide +kernel
theorem dX6_append_1 : decode cX6_append 1 = .ok (.getfield 22, 3) := by decide +kernel
theorem dX6_append_4 : decode cX6_append 4 = .ok (.sipush 160, 3) := by decide +kernel
theorem dX6_append_7 : decode cX6_append 7 = .ok (.if_icmp .lt 5, 3) := by decide +kernel
theorem dX6_append_10 : decode cX6_append 10 = .ok (.iconst 0, 1) := by decide +kernel
theorem dX6_append_11 : decode cX6_append 11 = .ok (.ireturn, 1) := by decide +kernel
theorem dX6_append_12 : decode cX6_append 12 = .ok (.aload_n 0, 1) := by decide +kernel
theorem dX6_append_13 : decode cX6_append 13 = .ok (.getfield 11, 3) := by decide +kernel
theorem dX6_append_16 : decode cX6_append 16 = .ok (.aload_n 0, 1) := by decide +kernel
theorem dX6_append_17 : decode cX6_append 17 = .ok (.getfield 22, 3) := by decide +kernel
theorem dX6_append_20 : decode cX6_append 20 = .ok (.iload_n 1, 1) := by decide +kernel
theorem dX6_append_21 : decode cX6_append 21 = .ok (.i2c, 1) := by decide +kernel
theorem dX6_append_22 : decode cX6_append 22 = .ok (.castore, 1) := by decide +kernel
theorem dX6_append_23 : decode cX6_append 23 = .ok (.aload_n 0, 1) := by decide +kernel
theorem dX6_append_24 : decode cX6_append 24 = .ok (.dup, 1) := by decide +kernel
theorem dX6_append_25 : decode cX6_append 25 = .ok (.getfield 22, 3) := by decide +kernel
theorem dX6_append_28 : decode cX6_append 28 = .ok (.iconst 1, 1) := by decide +kernel
theorem dX6_append_29 : decode cX6_append 29 = .ok (.iadd, 1) := by decide +kernel
theorem dX6_append_30 : decode cX6_append 30 = .ok (.putfield 22, 3) := by decide +kernel
theorem dX6_append_33 : decode cX6_append 33 = .ok (.iconst 1, 1) := by decide +kernel
theorem dX6_append_34 : decode cX6_append 34 = .ok (.ireturn, 1) := by decide +kernel
set_option maxRecDepth 20000 in
theorem ggX6_readOver_X6_nextToken : GoodIn wsX6_readOver wsX6_nextToken := goodIn_r _ [16, 8, 9, 10, 11, 17, 18, 15, 19, 20, 21, 22, 125, 126, 127, 128, 129, 130, 131, 132, 133, 134] (by decide +kernel) (by decide +kernel)
set_option maxRecDepth 20000 in
theorem gX6_readOver_X6_nextToken : GoodIn wsX6_readOver (wsV RX6 46 RX6 yX6_nextToken wsX6_nextToken) := goodIn_app (goodIn_of _ (by decide +kernel)) ggX6_readOver_X6_nextToken
set_option maxRecDepth 20000 in
theorem ggX6_readOver_X6_readClause : GoodIn wsX6_readOver wsX6_readClause := goodIn_r _ [26, 27, 7, 2, 4, 6, 28, 29, 30, 15, 31, 32, 33, 34, 35, 8, 9, 11, 36, 37, 38, 39, 40, 41, 42, 43, 44, 45, 46, 47, 48, 49, 50, 51, 52, 53, 54, 55, 56, 57, 58, 59, 60, 61, 62, 63, 64, 65, 66, 67, 68, 69, 70, 71, 72, 73, 74, 75, 76, 77, 78, 79, 80, 81, 82, 83, 84, 85, 86, 87, 88, 89, 90, 91, 92, 12, 13, 14, 16, 10, 17, 18, 19, 20, 21, 22, 93, 94, 95, 96, 97, 98, 99, 100, 101, 102, 103, 104, 105, 106, 107, 108, 109, 110, 111, 112, 125, 126, 127, 128, 129, 130, 131, 132, 133, 134] (by decide +kernel) (by decide +kernel)
set_option maxRecDepth 20000 in
theorem gX6_readOver_X6_readClause : GoodIn wsX6_readOver (wsV RX6 49 RX6 yX6_readClause wsX6_readClause) := goodIn_app (goodIn_of _ (by decide +kernel)) ggX6_readOver_X6_readClause
theorem dX6_readOver_0 : decode cX6_readOver 0 = .ok (.aload_n 0, 1) := by decide +kernel
theorem dX6_readOver_1 : decode cX6_readOver 1 = .ok (.aload_n 1, 1) := by decide +kernel
theorem dX6_readOver_2 : decode cX6_readOver 2 = .ok (.getfield 26, 3) := by decide +kernel
theorem dX6_readOver_5 : decode cX6_readOver 5 = .ok (.putfield 31, 3) := by decide +kernel
theorem dX6_readOver_8 : decode cX6_readOver 8 = .ok (.aload_n 0, 1) := by decide +kernel
theorem dX6_readOver_9 : decode cX6_readOver 9 = .ok (.aload_n 1, 1) := by decide +kernel
theorem dX6_readOver_10 : decode cX6_readOver 10 = .ok (.getfield 32, 3) := by decide +kernel
theorem dX6_readOver_13 : decode cX6_readOver 13 = .ok (.putfield 35, 3) := by decide +kernel
theorem dX6_readOver_16 : decode cX6_readOver 16 = .ok (.aload_n 0, 1) := by decide +kernel
theorem dX6_readOver_17 : decode cX6_readOver 17 = .ok (.aload_n 1, 1) := by decide +kernel
theorem dX6_readOver_18 : decode cX6_readOver 18 = .ok (.getfield 36, 3) := by decide +kernel
theorem dX6_readOver_21 : decode cX6_readOver 21 = .ok (.putfield 39, 3) := by decide +kernel
theorem dX6_readOver_24 : decode cX6_readOver 24 = .ok (.aload_n 0, 1) := by decide +kernel
theorem dX6_readOver_25 : decode cX6_readOver 25 = .ok (.iconst 0, 1) := by decide +kernel
theorem dX6_readOver_26 : decode cX6_readOver 26 = .ok (.putfield 40, 3) := by decide +kernel
theorem dX6_readOver_29 : decode cX6_readOver 29 = .ok (.aload_n 0, 1) := by decide +kernel
theorem dX6_readOver_30 : decode cX6_readOver 30 = .ok (.iconst 0, 1) := by decide +kernel
theorem dX6_readOver_31 : decode cX6_readOver 31 = .ok (.putfield 43, 3) := by decide +kernel
theorem dX6_readOver_34 : decode cX6_readOver 34 = .ok (.iconst 0, 1) := by decide +kernel
theorem dX6_readOver_35 : decode cX6_readOver 35 = .ok (.istore_n 2, 1) := by decide +kernel
theorem dX6_readOver_36 : decode cX6_readOver 36 = .ok (.iload_n 2, 1) := by decide +kernel
theorem dX6_readOver_37 : decode cX6_readOver 37 = .ok (.bipush 14, 2) := by decide +kernel
theorem dX6_readOver_39 : decode cX6_readOver 39 = .ok (.if_icmp .ge 67, 3) := by decide +kernel
theorem dX6_readOver_42 : decode cX6_readOver 42 = .ok (.aload_n 0, 1) := by decide +kernel
theorem dX6_readOver_43 : decode cX6_readOver 43 = .ok (.invokevirtual 46, 3) := by decide +kernel
theorem dX6_readOver_46 : decode cX6_readOver 46 = .ok (.aload_n 0, 1) := by decide +kernel
theorem dX6_readOver_47 : decode cX6_readOver 47 = .ok (.invokevirtual 49, 3) := by decide +kernel
theorem dX6_readOver_50 : decode cX6_readOver 50 = .ok (.ifCond .ne 8, 3) := by decide +kernel
theorem dX6_readOver_53 : decode cX6_readOver 53 = .ok (.aload_n 0, 1) := by decide +kernel
theorem dX6_readOver_54 : decode cX6_readOver 54 = .ok (.getfield 53, 3) := by decide +kernel
theorem dX6_readOver_57 : decode cX6_readOver 57 = .ok (.ireturn, 1) := by decide +kernel
theorem dX6_readOver_58 : decode cX6_readOver 58 = .ok (.aload_n 0, 1) := by decide +kernel
theorem dX6_readOver_59 : decode cX6_readOver 59 = .ok (.dup, 1) := by decide +kernel
theorem dX6_readOver_60 : decode cX6_readOver 60 = .ok (.getfield 40, 3) := by decide +kernel
theorem dX6_readOver_63 : decode cX6_readOver 63 = .ok (.iconst 1, 1) := by decide +kernel
theorem dX6_readOver_64 : decode cX6_readOver 64 = .ok (.iadd, 1) := by decide +kernel
theorem dX6_readOver_65 : decode cX6_readOver 65 = .ok (.putfield 40, 3) := by decide +kernel
theorem dX6_readOver_68 : decode cX6_readOver 68 = .ok (.aload_n 0, 1) := by decide +kernel
theorem dX6_readOver_69 : decode cX6_readOver 69 = .ok (.getfield 53, 3) := by decide +kernel
theorem dX6_readOver_72 : decode cX6_readOver 72 = .ok (.aload_n 0, 1) := by decide +kernel
theorem dX6_readOver_73 : decode cX6_readOver 73 = .ok (.getfield 22, 3) := by decide +kernel
theorem dX6_readOver_76 : decode cX6_readOver 76 = .ok (.if_icmp .ne 5, 3) := by decide +kernel
theorem dX6_readOver_79 : decode cX6_readOver 79 = .ok (.iconst (-1), 1) := by decide +kernel
theorem dX6_readOver_80 : decode cX6_readOver 80 = .ok (.ireturn, 1) := by decide +kernel
theorem dX6_readOver_81 : decode cX6_readOver 81 = .ok (.aload_n 0, 1) := by decide +kernel
theorem dX6_readOver_82 : decode cX6_readOver 82 = .ok (.getfield 11, 3) := by decide +kernel
theorem dX6_readOver_85 : decode cX6_readOver 85 = .ok (.aload_n 0, 1) := by decide +kernel
theorem dX6_readOver_86 : decode cX6_readOver 86 = .ok (.getfield 53, 3) := by decide +kernel
theorem dX6_readOver_89 : decode cX6_readOver 89 = .ok (.caload, 1) := by decide +kernel
theorem dX6_readOver_90 : decode cX6_readOver 90 = .ok (.bipush 59, 2) := by decide +kernel
theorem dX6_readOver_92 : decode cX6_readOver 92 = .ok (.if_icmp .eq 8, 3) := by decide +kernel
theorem dX6_readOver_95 : decode cX6_readOver 95 = .ok (.aload_n 0, 1) := by decide +kernel
theorem dX6_readOver_96 : decode cX6_readOver 96 = .ok (.getfield 53, 3) := by decide +kernel
theorem dX6_readOver_99 : decode cX6_readOver 99 = .ok (.ireturn, 1) := by decide +kernel
theorem dX6_readOver_100 : decode cX6_readOver 100 = .ok (.iinc 2 1, 3) := by decide +kernel
theorem dX6_readOver_103 : decode cX6_readOver 103 = .ok (.goto (-67), 3) := by decide +kernel
theorem dX6_readOver_106 : decode cX6_readOver 106 = .ok (.aload_n 0, 1) := by decide +kernel
theorem dX6_readOver_107 : decode cX6_readOver 107 = .ok (.getfield 53, 3) := by decide +kernel
theorem dX6_readOver_110 : decode cX6_readOver 110 = .ok (.ireturn, 1) := by decide +kernel
set_option maxRecDepth 20000 in
theorem ggX6_tellTo_X1_clear : GoodIn wsX6_tellTo wsX1_clear := goodIn_r _ [9, 10, 11, 12, 13, 44, 45, 46, 47, 48, 49, 50, 51, 52, 53, 54, 55] (by decide +kernel) (by decide +kernel)
set_option maxRecDepth 20000 in
theorem gX6_tellTo_X1_clear : GoodIn wsX6_tellTo (wsV RX6 56 RX1 yX1_clear wsX1_clear) := goodIn_app (goodIn_of _ (by decide +kernel)) ggX6_tellTo_X1_clear
set_option maxRecDepth 20000 in
theorem ggX6_tellTo_X1_addPlace : GoodIn wsX6_tellTo wsX1_addPlace := goodIn_r _ [17, 10, 18, 44, 45, 46, 47, 48, 49, 50, 51, 52, 53, 54, 55] (by decide +kernel) (by decide +kernel)
set_option maxRecDepth 20000 in
theorem gX6_tellTo_X1_addPlace : GoodIn wsX6_tellTo (wsV RX6 59 RX1 yX1_addPlace wsX1_addPlace) := goodIn_app (goodIn_of _ (by decide +kernel)) ggX6_tellTo_X1_addPlace
set_option maxRecDepth 20000 in
theorem ggX6_tellTo_X1_addRoad : GoodIn wsX6_tellTo wsX1_addRoad := goodIn_r _ [22, 11, 23, 24, 25, 26, 44, 45, 46, 47, 48, 49, 50, 51, 52, 53, 54, 55] (by decide +kernel) (by decide +kernel)
set_option maxRecDepth 20000 in
theorem gX6_tellTo_X1_addRoad : GoodIn wsX6_tellTo (wsV RX6 63 RX1 yX1_addRoad wsX1_addRoad) := goodIn_app (goodIn_of _ (by decide +kernel)) ggX6_tellTo_X1_addRoad
set_option maxRecDepth 20000 in
theorem ggX6_tellTo_X1_addCart : GoodIn wsX6_tellTo wsX1_addCart := goodIn_r _ [30, 12, 31, 32, 33, 44, 45, 46, 47, 48, 49, 50, 51, 52, 53, 54, 55] (by decide +kernel) (by decide +kernel)
set_option maxRecDepth 20000 in
theorem gX6_tellTo_X1_addCart : GoodIn wsX6_tellTo (wsV RX6 67 RX1 yX1_addCart wsX1_addCart) := goodIn_app (goodIn_of _ (by decide +kernel)) ggX6_tellTo_X1_addCart
theorem dX6_tellTo_0 : decode cX6_tellTo 0 = .ok (.iconst 0, 1) := by decide +kernel
theorem dX6_tellTo_1 : decode cX6_tellTo 1 = .ok (.istore_n 2, 1) := by decide +kernel
theorem dX6_tellTo_2 : decode cX6_tellTo 2 = .ok (.iload_n 2, 1) := by decide +kernel
theorem dX6_tellTo_3 : decode cX6_tellTo 3 = .ok (.aload_n 0, 1) := by decide +kernel
theorem dX6_tellTo_4 : decode cX6_tellTo 4 = .ok (.getfield 40, 3) := by decide +kernel
theorem dX6_tellTo_7 : decode cX6_tellTo 7 = .ok (.if_icmp .ge 155, 3) := by decide +kernel
theorem dX6_tellTo_10 : decode cX6_tellTo 10 = .ok (.iload_n 2, 1) := by decide +kernel
theorem dX6_tellTo_11 : decode cX6_tellTo 11 = .ok (.iconst 3, 1) := by decide +kernel
theorem dX6_tellTo_12 : decode cX6_tellTo 12 = .ok (.imul, 1) := by decide +kernel
theorem dX6_tellTo_13 : decode cX6_tellTo 13 = .ok (.istore_n 3, 1) := by decide +kernel
theorem dX6_tellTo_14 : decode cX6_tellTo 14 = .ok (.aload_n 0, 1) := by decide +kernel
theorem dX6_tellTo_15 : decode cX6_tellTo 15 = .ok (.getfield 15, 3) := by decide +kernel
theorem dX6_tellTo_18 : decode cX6_tellTo 18 = .ok (.iload_n 2, 1) := by decide +kernel
theorem dX6_tellTo_19 : decode cX6_tellTo 19 = .ok (.iaload, 1) := by decide +kernel
theorem dX6_tellTo_20 : decode cX6_tellTo 20 = .ok (.istore 4, 2) := by decide +kernel
theorem dX6_tellTo_22 : decode cX6_tellTo 22 = .ok (.iload 4, 2) := by decide +kernel
theorem dX6_tellTo_24 : decode cX6_tellTo 24 = .ok (.ifCond .ne 10, 3) := by decide +kernel
theorem dX6_tellTo_27 : decode cX6_tellTo 27 = .ok (.aload_n 1, 1) := by decide +kernel
theorem dX6_tellTo_28 : decode cX6_tellTo 28 = .ok (.invokevirtual 56, 3) := by decide +kernel
theorem dX6_tellTo_31 : decode cX6_tellTo 31 = .ok (.goto 125, 3) := by decide +kernel
theorem dX6_tellTo_34 : decode cX6_tellTo 34 = .ok (.iload 4, 2) := by decide +kernel
theorem dX6_tellTo_36 : decode cX6_tellTo 36 = .ok (.iconst 5, 1) := by decide +kernel
theorem dX6_tellTo_37 : decode cX6_tellTo 37 = .ok (.if_icmp .ge 14, 3) := by decide +kernel
theorem dX6_tellTo_40 : decode cX6_tellTo 40 = .ok (.aload_n 1, 1) := by decide +kernel
theorem dX6_tellTo_41 : decode cX6_tellTo 41 = .ok (.iload 4, 2) := by decide +kernel
theorem dX6_tellTo_43 : decode cX6_tellTo 43 = .ok (.iconst 1, 1) := by decide +kernel
theorem dX6_tellTo_44 : decode cX6_tellTo 44 = .ok (.isub, 1) := by decide +kernel
theorem dX6_tellTo_45 : decode cX6_tellTo 45 = .ok (.invokevirtual 59, 3) := by decide +kernel
theorem dX6_tellTo_48 : decode cX6_tellTo 48 = .ok (.goto 108, 3) := by decide +kernel
theorem dX6_tellTo_51 : decode cX6_tellTo 51 = .ok (.iload 4, 2) := by decide +kernel
theorem dX6_tellTo_53 : decode cX6_tellTo 53 = .ok (.bipush 8, 2) := by decide +kernel
theorem dX6_tellTo_55 : decode cX6_tellTo 55 = .ok (.if_icmp .ge 36, 3) := by decide +kernel
theorem dX6_tellTo_58 : decode cX6_tellTo 58 = .ok (.aload_n 1, 1) := by decide +kernel
theorem dX6_tellTo_59 : decode cX6_tellTo 59 = .ok (.iload 4, 2) := by decide +kernel
theorem dX6_tellTo_61 : decode cX6_tellTo 61 = .ok (.iconst 5, 1) := by decide +kernel
theorem dX6_tellTo_62 : decode cX6_tellTo 62 = .ok (.isub, 1) := by decide +kernel
theorem dX6_tellTo_63 : decode cX6_tellTo 63 = .ok (.aload_n 0, 1) := by decide +kernel
theorem dX6_tellTo_64 : decode cX6_tellTo 64 = .ok (.getfield 19, 3) := by decide +kernel
theorem dX6_tellTo_67 : decode cX6_tellTo 67 = .ok (.iload_n 3, 1) := by decide +kernel
theorem dX6_tellTo_68 : decode cX6_tellTo 68 = .ok (.iaload, 1) := by decide +kernel
theorem dX6_tellTo_69 : decode cX6_tellTo 69 = .ok (.aload_n 0, 1) := by decide +kernel
theorem dX6_tellTo_70 : decode cX6_tellTo 70 = .ok (.getfield 19, 3) := by decide +kernel
theorem dX6_tellTo_73 : decode cX6_tellTo 73 = .ok (.iload_n 3, 1) := by decide +kernel
theorem dX6_tellTo_74 : decode cX6_tellTo 74 = .ok (.iconst 1, 1) := by decide +kernel
theorem dX6_tellTo_75 : decode cX6_tellTo 75 = .ok (.iadd, 1) := by decide +kernel
theorem dX6_tellTo_76 : decode cX6_tellTo 76 = .ok (.iaload, 1) := by decide +kernel
theorem dX6_tellTo_77 : decode cX6_tellTo 77 = .ok (.aload_n 0, 1) := by decide +kernel
theorem dX6_tellTo_78 : decode cX6_tellTo 78 = .ok (.getfield 19, 3) := by decide +kernel
theorem dX6_tellTo_81 : decode cX6_tellTo 81 = .ok (.iload_n 3, 1) := by decide +kernel
theorem dX6_tellTo_82 : decode cX6_tellTo 82 = .ok (.iconst 2, 1) := by decide +kernel
theorem dX6_tellTo_83 : decode cX6_tellTo 83 = .ok (.iadd, 1) := by decide +kernel
theorem dX6_tellTo_84 : decode cX6_tellTo 84 = .ok (.iaload, 1) := by decide +kernel
theorem dX6_tellTo_85 : decode cX6_tellTo 85 = .ok (.invokevirtual 63, 3) := by decide +kernel
theorem dX6_tellTo_88 : decode cX6_tellTo 88 = .ok (.goto 68, 3) := by decide +kernel
theorem dX6_tellTo_91 : decode cX6_tellTo 91 = .ok (.iload 4, 2) := by decide +kernel
theorem dX6_tellTo_93 : decode cX6_tellTo 93 = .ok (.bipush 11, 2) := by decide +kernel
theorem dX6_tellTo_95 : decode cX6_tellTo 95 = .ok (.if_icmp .ge 29, 3) := by decide +kernel
theorem dX6_tellTo_98 : decode cX6_tellTo 98 = .ok (.aload_n 1, 1) := by decide +kernel
theorem dX6_tellTo_99 : decode cX6_tellTo 99 = .ok (.iload 4, 2) := by decide +kernel
theorem dX6_tellTo_101 : decode cX6_tellTo 101 = .ok (.bipush 8, 2) := by decide +kernel
theorem dX6_tellTo_103 : decode cX6_tellTo 103 = .ok (.isub, 1) := by decide +kernel
theorem dX6_tellTo_104 : decode cX6_tellTo 104 = .ok (.aload_n 0, 1) := by decide +kernel
theorem dX6_tellTo_105 : decode cX6_tellTo 105 = .ok (.getfield 19, 3) := by decide +kernel
theorem dX6_tellTo_108 : decode cX6_tellTo 108 = .ok (.iload_n 3, 1) := by decide +kernel
theorem dX6_tellTo_109 : decode cX6_tellTo 109 = .ok (.iaload, 1) := by decide +kernel
theorem dX6_tellTo_110 : decode cX6_tellTo 110 = .ok (.aload_n 0, 1) := by decide +kernel
theorem dX6_tellTo_111 : decode cX6_tellTo 111 = .ok (.getfield 19, 3) := by decide +kernel
theorem dX6_tellTo_114 : decode cX6_tellTo 114 = .ok (.iload_n 3, 1) := by decide +kernel
theorem dX6_tellTo_115 : decode cX6_tellTo 115 = .ok (.iconst 1, 1) := by decide +kernel
theorem dX6_tellTo_116 : decode cX6_tellTo 116 = .ok (.iadd, 1) := by decide +kernel
theorem dX6_tellTo_117 : decode cX6_tellTo 117 = .ok (.iaload, 1) := by decide +kernel
theorem dX6_tellTo_118 : decode cX6_tellTo 118 = .ok (.invokevirtual 67, 3) := by decide +kernel
theorem dX6_tellTo_121 : decode cX6_tellTo 121 = .ok (.goto 35, 3) := by decide +kernel
theorem dX6_tellTo_124 : decode cX6_tellTo 124 = .ok (.iload 4, 2) := by decide +kernel
theorem dX6_tellTo_126 : decode cX6_tellTo 126 = .ok (.bipush 11, 2) := by decide +kernel
theorem dX6_tellTo_128 : decode cX6_tellTo 128 = .ok (.if_icmp .ne 23, 3) := by decide +kernel
theorem dX6_tellTo_131 : decode cX6_tellTo 131 = .ok (.aload_n 1, 1) := by decide +kernel
theorem dX6_tellTo_132 : decode cX6_tellTo 132 = .ok (.dup, 1) := by decide +kernel
theorem dX6_tellTo_133 : decode cX6_tellTo 133 = .ok (.getfield 71, 3) := by decide +kernel
theorem dX6_tellTo_136 : decode cX6_tellTo 136 = .ok (.lconst 1, 1) := by decide +kernel
theorem dX6_tellTo_137 : decode cX6_tellTo 137 = .ok (.aload_n 0, 1) := by decide +kernel
theorem dX6_tellTo_138 : decode cX6_tellTo 138 = .ok (.getfield 19, 3) := by decide +kernel
theorem dX6_tellTo_141 : decode cX6_tellTo 141 = .ok (.iload_n 3, 1) := by decide +kernel
theorem dX6_tellTo_142 : decode cX6_tellTo 142 = .ok (.iaload, 1) := by decide +kernel
theorem dX6_tellTo_143 : decode cX6_tellTo 143 = .ok (.lshl, 1) := by decide +kernel
theorem dX6_tellTo_144 : decode cX6_tellTo 144 = .ok (.lor, 1) := by decide +kernel
theorem dX6_tellTo_145 : decode cX6_tellTo 145 = .ok (.putfield 71, 3) := by decide +kernel
theorem dX6_tellTo_148 : decode cX6_tellTo 148 = .ok (.goto 8, 3) := by decide +kernel
theorem dX6_tellTo_151 : decode cX6_tellTo 151 = .ok (.aload_n 1, 1) := by decide +kernel
theorem dX6_tellTo_152 : decode cX6_tellTo 152 = .ok (.lconst 0, 1) := by decide +kernel
theorem dX6_tellTo_153 : decode cX6_tellTo 153 = .ok (.putfield 71, 3) := by decide +kernel
theorem dX6_tellTo_156 : decode cX6_tellTo 156 = .ok (.iinc 2 1, 3) := by decide +kernel
theorem dX6_tellTo_159 : decode cX6_tellTo 159 = .ok (.goto (-157), 3) := by decide +kernel
theorem dX6_tellTo_162 : decode cX6_tellTo 162 = .ok (.return_, 1) := by decide +kernel
set_option maxRecDepth 20000 in
theorem ggX6_readClause_X6_wordInHand : GoodIn wsX6_readClause wsX6_wordInHand := goodIn_r _ [10, 11, 12, 13, 9, 14, 15, 16, 17, 18, 19, 20, 21, 22, 23, 24, 25, 26, 27, 28, 29, 30, 31, 32, 33, 34, 35, 36, 37, 38, 39, 40, 41, 42, 43, 44, 45, 46, 47, 48, 49, 50, 51, 52, 53, 54, 55, 56, 57, 58, 59, 60, 61, 62, 63, 64, 65, 66, 67, 68, 69, 70, 71, 72, 73, 74, 106, 107, 108, 109, 110, 111, 112, 113, 114, 115] (by decide +kernel) (by decide +kernel)
set_option maxRecDepth 20000 in
theorem gX6_readClause_X6_wordInHand : GoodIn wsX6_readClause (wsV RX6 75 RX6 yX6_wordInHand wsX6_wordInHand) := goodIn_app (goodIn_of _ (by decide +kernel)) ggX6_readClause_X6_wordInHand
set_option maxRecDepth 20000 in
theorem ggX6_readClause_X6_nextToken : GoodIn wsX6_readClause wsX6_nextToken := goodIn_r _ [78, 15, 16, 79, 17, 80, 81, 9, 82, 83, 84, 85, 106, 107, 108, 109, 110, 111, 112, 113, 114, 115] (by decide +kernel) (by decide +kernel)
set_option maxRecDepth 20000 in
theorem gX6_readClause_X6_nextToken : GoodIn wsX6_readClause (wsV RX6 46 RX6 yX6_nextToken wsX6_nextToken) := goodIn_app (goodIn_of _ (by decide +kernel)) ggX6_readClause_X6_nextToken
set_option maxRecDepth 20000 in
theorem ggX6_readClause_X6_readPlace : GoodIn wsX6_readClause wsX6_readPlace := goodIn_r _ [89, 3, 75, 76, 77, 9, 78, 15, 16, 79, 17, 80, 81, 82, 83, 84, 85, 106, 107, 108, 109, 110, 111, 112, 113, 114, 115] (by decide +kernel) (by decide +kernel)
set_option maxRecDepth 20000 in
theorem gX6_readClause_X6_readPlace : GoodIn wsX6_readClause (wsV RX6 79 RX6 yX6_readPlace wsX6_readPlace) := goodIn_app (goodIn_of _ (by decide +kernel)) ggX6_readClause_X6_readPlace
set_option maxRecDepth 20000 in
theorem ggX6_readClause_X6_readRoad : GoodIn wsX6_readClause wsX6_readRoad := goodIn_r _ [93, 4, 3, 94, 2, 75, 76, 77, 9, 78, 15, 16, 79, 17, 80, 81, 82, 83, 84, 85, 95, 96, 97, 98, 99, 100, 101, 106, 107, 108, 109, 110, 111, 112, 113, 114, 115] (by decide +kernel) (by decide +kernel)
set_option maxRecDepth 20000 in
theorem gX6_readClause_X6_readRoad : GoodIn wsX6_readClause (wsV RX6 82 RX6 yX6_readRoad wsX6_readRoad) := goodIn_app (goodIn_of _ (by decide +kernel)) ggX6_readClause_X6_readRoad
set_option maxRecDepth 20000 in
theorem ggX6_readClause_X6_readCart : GoodIn wsX6_readClause wsX6_readCart := goodIn_r _ [105, 5, 3, 75, 76, 77, 9, 78, 15, 16, 79, 17, 80, 81, 82, 83, 84, 85, 95, 96, 97, 98, 94, 2, 99, 100, 101, 106, 107, 108, 109, 110, 111, 112, 113, 114, 115] (by decide +kernel) (by decide +kernel)
set_option maxRecDepth 20000 in
theorem gX6_readClause_X6_readCart : GoodIn wsX6_readClause (wsV RX6 85 RX6 yX6_readCart wsX6_readCart) := goodIn_app (goodIn_of _ (by decide +kernel)) ggX6_readClause_X6_readCart
set_option maxRecDepth 20000 in
theorem ggX6_readClause_X6_readNumber : GoodIn wsX6_readClause wsX6_readNumber := goodIn_r _ [98, 15, 16, 17, 94, 2, 83, 84, 9, 85, 99, 100, 101, 75, 76, 77, 78, 79, 80, 81, 82, 106, 107, 108, 109, 110, 111, 112, 113, 114, 115] (by decide +kernel) (by decide +kernel)
set_option maxRecDepth 20000 in
theorem gX6_readClause_X6_readNumber : GoodIn wsX6_readClause (wsV RX6 88 RX6 yX6_readNumber wsX6_readNumber) := goodIn_app (goodIn_of _ (by decide +kernel)) ggX6_readClause_X6_readNumber
theorem dX6_readClause_0 : decode cX6_readClause 0 = .ok (.aload_n 0, 1) := by decide +kernel
theorem dX6_readClause_1 : decode cX6_readClause 1 = .ok (.invokevirtual 75, 3) := by decide +kernel
theorem dX6_readClause_4 : decode cX6_readClause 4 = .ok (.istore_n 1, 1) := by decide +kernel
theorem dX6_readClause_5 : decode cX6_readClause 5 = .ok (.iload_n 1, 1) := by decide +kernel
theorem dX6_readClause_6 : decode cX6_readClause 6 = .ok (.iconst (-1), 1) := by decide +kernel
theorem dX6_readClause_7 : decode cX6_readClause 7 = .ok (.if_icmp .ne 5, 3) := by decide +kernel
theorem dX6_readClause_10 : decode cX6_readClause 10 = .ok (.iconst 0, 1) := by decide +kernel
theorem dX6_readClause_11 : decode cX6_readClause 11 = .ok (.ireturn, 1) := by decide +kernel
theorem dX6_readClause_12 : decode cX6_readClause 12 = .ok (.aload_n 0, 1) := by decide +kernel
theorem dX6_readClause_13 : decode cX6_readClause 13 = .ok (.getfield 15, 3) := by decide +kernel
theorem dX6_readClause_16 : decode cX6_readClause 16 = .ok (.aload_n 0, 1) := by decide +kernel
theorem dX6_readClause_17 : decode cX6_readClause 17 = .ok (.getfield 40, 3) := by decide +kernel
theorem dX6_readClause_20 : decode cX6_readClause 20 = .ok (.iload_n 1, 1) := by decide +kernel
theorem dX6_readClause_21 : decode cX6_readClause 21 = .ok (.iastore, 1) := by decide +kernel
theorem dX6_readClause_22 : decode cX6_readClause 22 = .ok (.iload_n 1, 1) := by decide +kernel
theorem dX6_readClause_23 : decode cX6_readClause 23 = .ok (.ifCond .ne 24, 3) := by decide +kernel
theorem dX6_readClause_26 : decode cX6_readClause 26 = .ok (.aload_n 0, 1) := by decide +kernel
theorem dX6_readClause_27 : decode cX6_readClause 27 = .ok (.iconst 0, 1) := by decide +kernel
theorem dX6_readClause_28 : decode cX6_readClause 28 = .ok (.putfield 31, 3) := by decide +kernel
theorem dX6_readClause_31 : decode cX6_readClause 31 = .ok (.aload_n 0, 1) := by decide +kernel
theorem dX6_readClause_32 : decode cX6_readClause 32 = .ok (.iconst 0, 1) := by decide +kernel
theorem dX6_readClause_33 : decode cX6_readClause 33 = .ok (.putfield 35, 3) := by decide +kernel
theorem dX6_readClause_36 : decode cX6_readClause 36 = .ok (.aload_n 0, 1) := by decide +kernel
theorem dX6_readClause_37 : decode cX6_readClause 37 = .ok (.iconst 0, 1) := by decide +kernel
theorem dX6_readClause_38 : decode cX6_readClause 38 = .ok (.putfield 39, 3) := by decide +kernel
theorem dX6_readClause_41 : decode cX6_readClause 41 = .ok (.aload_n 0, 1) := by decide +kernel
theorem dX6_readClause_42 : decode cX6_readClause 42 = .ok (.invokevirtual 46, 3) := by decide +kernel
theorem dX6_readClause_45 : decode cX6_readClause 45 = .ok (.iconst 1, 1) := by decide +kernel
theorem dX6_readClause_46 : decode cX6_readClause 46 = .ok (.ireturn, 1) := by decide +kernel
theorem dX6_readClause_47 : decode cX6_readClause 47 = .ok (.iload_n 1, 1) := by decide +kernel
theorem dX6_readClause_48 : decode cX6_readClause 48 = .ok (.iconst 5, 1) := by decide +kernel
theorem dX6_readClause_49 : decode cX6_readClause 49 = .ok (.if_icmp .ge 8, 3) := by decide +kernel
theorem dX6_readClause_52 : decode cX6_readClause 52 = .ok (.aload_n 0, 1) := by decide +kernel
theorem dX6_readClause_53 : decode cX6_readClause 53 = .ok (.invokevirtual 79, 3) := by decide +kernel
theorem dX6_readClause_56 : decode cX6_readClause 56 = .ok (.ireturn, 1) := by decide +kernel
theorem dX6_readClause_57 : decode cX6_readClause 57 = .ok (.iload_n 1, 1) := by decide +kernel
theorem dX6_readClause_58 : decode cX6_readClause 58 = .ok (.bipush 8, 2) := by decide +kernel
theorem dX6_readClause_60 : decode cX6_readClause 60 = .ok (.if_icmp .ge 8, 3) := by decide +kernel
theorem dX6_readClause_63 : decode cX6_readClause 63 = .ok (.aload_n 0, 1) := by decide +kernel
theorem dX6_readClause_64 : decode cX6_readClause 64 = .ok (.invokevirtual 82, 3) := by decide +kernel
theorem dX6_readClause_67 : decode cX6_readClause 67 = .ok (.ireturn, 1) := by decide +kernel
theorem dX6_readClause_68 : decode cX6_readClause 68 = .ok (.iload_n 1, 1) := by decide +kernel
theorem dX6_readClause_69 : decode cX6_readClause 69 = .ok (.bipush 11, 2) := by decide +kernel
theorem dX6_readClause_71 : decode cX6_readClause 71 = .ok (.if_icmp .ge 8, 3) := by decide +kernel
theorem dX6_readClause_74 : decode cX6_readClause 74 = .ok (.aload_n 0, 1) := by decide +kernel
theorem dX6_readClause_75 : decode cX6_readClause 75 = .ok (.invokevirtual 85, 3) := by decide +kernel
theorem dX6_readClause_78 : decode cX6_readClause 78 = .ok (.ireturn, 1) := by decide +kernel
theorem dX6_readClause_79 : decode cX6_readClause 79 = .ok (.aload_n 0, 1) := by decide +kernel
theorem dX6_readClause_80 : decode cX6_readClause 80 = .ok (.invokevirtual 46, 3) := by decide +kernel
theorem dX6_readClause_83 : decode cX6_readClause 83 = .ok (.iload_n 1, 1) := by decide +kernel
theorem dX6_readClause_84 : decode cX6_readClause 84 = .ok (.bipush 12, 2) := by decide +kernel
theorem dX6_readClause_86 : decode cX6_readClause 86 = .ok (.if_icmp .eq 15, 3) := by decide +kernel
theorem dX6_readClause_89 : decode cX6_readClause 89 = .ok (.aload_n 0, 1) := by decide +kernel
theorem dX6_readClause_90 : decode cX6_readClause 90 = .ok (.iconst 0, 1) := by decide +kernel
theorem dX6_readClause_91 : decode cX6_readClause 91 = .ok (.iconst 0, 1) := by decide +kernel
theorem dX6_readClause_92 : decode cX6_readClause 92 = .ok (.bipush 47, 2) := by decide +kernel
theorem dX6_readClause_94 : decode cX6_readClause 94 = .ok (.iconst (-1), 1) := by decide +kernel
theorem dX6_readClause_95 : decode cX6_readClause 95 = .ok (.invokevirtual 88, 3) := by decide +kernel
theorem dX6_readClause_98 : decode cX6_readClause 98 = .ok (.ifCond .eq 7, 3) := by decide +kernel
theorem dX6_readClause_101 : decode cX6_readClause 101 = .ok (.iconst 1, 1) := by decide +kernel
theorem dX6_readClause_102 : decode cX6_readClause 102 = .ok (.goto 4, 3) := by decide +kernel
theorem dX6_readClause_105 : decode cX6_readClause 105 = .ok (.iconst 0, 1) := by decide +kernel
theorem dX6_readClause_106 : decode cX6_readClause 106 = .ok (.ireturn, 1) := by decide +kernel
set_option maxRecDepth 20000 in
theorem ggX6_readPlace_X6_nextToken : GoodIn wsX6_readPlace wsX6_nextToken := goodIn_r _ [6, 7, 8, 9, 10, 11, 12, 5, 13, 14, 15, 16, 17, 18, 19, 20, 21, 22, 23, 24, 25, 26] (by decide +kernel) (by decide +kernel)
set_option maxRecDepth 20000 in
theorem gX6_readPlace_X6_nextToken : GoodIn wsX6_readPlace (wsV RX6 46 RX6 yX6_nextToken wsX6_nextToken) := goodIn_app (goodIn_of _ (by decide +kernel)) ggX6_readPlace_X6_nextToken
theorem dX6_readPlace_0 : decode cX6_readPlace 0 = .ok (.aload_n 0, 1) := by decide +kernel
theorem dX6_readPlace_1 : decode cX6_readPlace 1 = .ok (.getfield 31, 3) := by decide +kernel
theorem dX6_readPlace_4 : decode cX6_readPlace 4 = .ok (.bipush 7, 2) := by decide +kernel
theorem dX6_readPlace_6 : decode cX6_readPlace 6 = .ok (.if_icmp .lt 5, 3) := by decide +kernel
theorem dX6_readPlace_9 : decode cX6_readPlace 9 = .ok (.iconst 0, 1) := by decide +kernel
theorem dX6_readPlace_10 : decode cX6_readPlace 10 = .ok (.ireturn, 1) := by decide +kernel
theorem dX6_readPlace_11 : decode cX6_readPlace 11 = .ok (.aload_n 0, 1) := by decide +kernel
theorem dX6_readPlace_12 : decode cX6_readPlace 12 = .ok (.dup, 1) := by decide +kernel
theorem dX6_readPlace_13 : decode cX6_readPlace 13 = .ok (.getfield 31, 3) := by decide +kernel
theorem dX6_readPlace_16 : decode cX6_readPlace 16 = .ok (.iconst 1, 1) := by decide +kernel
theorem dX6_readPlace_17 : decode cX6_readPlace 17 = .ok (.iadd, 1) := by decide +kernel
theorem dX6_readPlace_18 : decode cX6_readPlace 18 = .ok (.putfield 31, 3) := by decide +kernel
theorem dX6_readPlace_21 : decode cX6_readPlace 21 = .ok (.aload_n 0, 1) := by decide +kernel
theorem dX6_readPlace_22 : decode cX6_readPlace 22 = .ok (.invokevirtual 46, 3) := by decide +kernel
theorem dX6_readPlace_25 : decode cX6_readPlace 25 = .ok (.iconst 1, 1) := by decide +kernel
theorem dX6_readPlace_26 : decode cX6_readPlace 26 = .ok (.ireturn, 1) := by decide +kernel
set_option maxRecDepth 20000 in
theorem ggX6_readRoad_X6_nextToken : GoodIn wsX6_readRoad wsX6_nextToken := goodIn_r _ [9, 10, 11, 12, 13, 14, 15, 8, 16, 17, 18, 19, 27, 28, 29, 30, 31, 32, 33, 34, 35, 36] (by decide +kernel) (by decide +kernel)
set_option maxRecDepth 20000 in
theorem gX6_readRoad_X6_nextToken : GoodIn wsX6_readRoad (wsV RX6 46 RX6 yX6_nextToken wsX6_nextToken) := goodIn_app (goodIn_of _ (by decide +kernel)) ggX6_readRoad_X6_nextToken
set_option maxRecDepth 20000 in
theorem ggX6_readRoad_X6_readNumber : GoodIn wsX6_readRoad wsX6_readNumber := goodIn_r _ [23, 10, 11, 13, 3, 4, 17, 18, 8, 19, 24, 25, 26, 5, 6, 7, 9, 12, 14, 15, 16, 27, 28, 29, 30, 31, 32, 33, 34, 35, 36] (by decide +kernel) (by decide +kernel)
set_option maxRecDepth 20000 in
theorem gX6_readRoad_X6_readNumber : GoodIn wsX6_readRoad (wsV RX6 88 RX6 yX6_readNumber wsX6_readNumber) := goodIn_app (goodIn_of _ (by decide +kernel)) ggX6_readRoad_X6_readNumber
theorem dX6_readRoad_0 : decode cX6_readRoad 0 = .ok (.aload_n 0, 1) := by decide +kernel
theorem dX6_readRoad_1 : decode cX6_readRoad 1 = .ok (.getfield 35, 3) := by decide +kernel
theorem dX6_readRoad_4 : decode cX6_readRoad 4 = .ok (.bipush 9, 2) := by decide +kernel
theorem dX6_readRoad_6 : decode cX6_readRoad 6 = .ok (.if_icmp .lt 5, 3) := by decide +kernel
theorem dX6_readRoad_9 : decode cX6_readRoad 9 = .ok (.iconst 0, 1) := by decide +kernel
theorem dX6_readRoad_10 : decode cX6_readRoad 10 = .ok (.ireturn, 1) := by decide +kernel
theorem dX6_readRoad_11 : decode cX6_readRoad 11 = .ok (.aload_n 0, 1) := by decide +kernel
theorem dX6_readRoad_12 : decode cX6_readRoad 12 = .ok (.dup, 1) := by decide +kernel
theorem dX6_readRoad_13 : decode cX6_readRoad 13 = .ok (.getfield 35, 3) := by decide +kernel
theorem dX6_readRoad_16 : decode cX6_readRoad 16 = .ok (.iconst 1, 1) := by decide +kernel
theorem dX6_readRoad_17 : decode cX6_readRoad 17 = .ok (.iadd, 1) := by decide +kernel
theorem dX6_readRoad_18 : decode cX6_readRoad 18 = .ok (.putfield 35, 3) := by decide +kernel
theorem dX6_readRoad_21 : decode cX6_readRoad 21 = .ok (.aload_n 0, 1) := by decide +kernel
theorem dX6_readRoad_22 : decode cX6_readRoad 22 = .ok (.invokevirtual 46, 3) := by decide +kernel
theorem dX6_readRoad_25 : decode cX6_readRoad 25 = .ok (.aload_n 0, 1) := by decide +kernel
theorem dX6_readRoad_26 : decode cX6_readRoad 26 = .ok (.iconst 0, 1) := by decide +kernel
theorem dX6_readRoad_27 : decode cX6_readRoad 27 = .ok (.iconst 0, 1) := by decide +kernel
theorem dX6_readRoad_28 : decode cX6_readRoad 28 = .ok (.aload_n 0, 1) := by decide +kernel
theorem dX6_readRoad_29 : decode cX6_readRoad 29 = .ok (.getfield 31, 3) := by decide +kernel
theorem dX6_readRoad_32 : decode cX6_readRoad 32 = .ok (.iconst 1, 1) := by decide +kernel
theorem dX6_readRoad_33 : decode cX6_readRoad 33 = .ok (.isub, 1) := by decide +kernel
theorem dX6_readRoad_34 : decode cX6_readRoad 34 = .ok (.iconst (-1), 1) := by decide +kernel
theorem dX6_readRoad_35 : decode cX6_readRoad 35 = .ok (.invokevirtual 88, 3) := by decide +kernel
theorem dX6_readRoad_38 : decode cX6_readRoad 38 = .ok (.ifCond .eq 45, 3) := by decide +kernel
theorem dX6_readRoad_41 : decode cX6_readRoad 41 = .ok (.aload_n 0, 1) := by decide +kernel
theorem dX6_readRoad_42 : decode cX6_readRoad 42 = .ok (.iconst 1, 1) := by decide +kernel
theorem dX6_readRoad_43 : decode cX6_readRoad 43 = .ok (.iconst 0, 1) := by decide +kernel
theorem dX6_readRoad_44 : decode cX6_readRoad 44 = .ok (.aload_n 0, 1) := by decide +kernel
theorem dX6_readRoad_45 : decode cX6_readRoad 45 = .ok (.getfield 31, 3) := by decide +kernel
theorem dX6_readRoad_48 : decode cX6_readRoad 48 = .ok (.iconst 1, 1) := by decide +kernel
theorem dX6_readRoad_49 : decode cX6_readRoad 49 = .ok (.isub, 1) := by decide +kernel
theorem dX6_readRoad_50 : decode cX6_readRoad 50 = .ok (.aload_n 0, 1) := by decide +kernel
theorem dX6_readRoad_51 : decode cX6_readRoad 51 = .ok (.getfield 19, 3) := by decide +kernel
theorem dX6_readRoad_54 : decode cX6_readRoad 54 = .ok (.aload_n 0, 1) := by decide +kernel
theorem dX6_readRoad_55 : decode cX6_readRoad 55 = .ok (.getfield 40, 3) := by decide +kernel
theorem dX6_readRoad_58 : decode cX6_readRoad 58 = .ok (.iconst 3, 1) := by decide +kernel
theorem dX6_readRoad_59 : decode cX6_readRoad 59 = .ok (.imul, 1) := by decide +kernel
theorem dX6_readRoad_60 : decode cX6_readRoad 60 = .ok (.iaload, 1) := by decide +kernel
theorem dX6_readRoad_61 : decode cX6_readRoad 61 = .ok (.invokevirtual 88, 3) := by decide +kernel
theorem dX6_readRoad_64 : decode cX6_readRoad 64 = .ok (.ifCond .eq 19, 3) := by decide +kernel
theorem dX6_readRoad_67 : decode cX6_readRoad 67 = .ok (.aload_n 0, 1) := by decide +kernel
theorem dX6_readRoad_68 : decode cX6_readRoad 68 = .ok (.iconst 2, 1) := by decide +kernel
theorem dX6_readRoad_69 : decode cX6_readRoad 69 = .ok (.iconst 1, 1) := by decide +kernel
theorem dX6_readRoad_70 : decode cX6_readRoad 70 = .ok (.bipush 6, 2) := by decide +kernel
theorem dX6_readRoad_72 : decode cX6_readRoad 72 = .ok (.iconst (-1), 1) := by decide +kernel
theorem dX6_readRoad_73 : decode cX6_readRoad 73 = .ok (.invokevirtual 88, 3) := by decide +kernel
theorem dX6_readRoad_76 : decode cX6_readRoad 76 = .ok (.ifCond .eq 7, 3) := by decide +kernel
theorem dX6_readRoad_79 : decode cX6_readRoad 79 = .ok (.iconst 1, 1) := by decide +kernel
theorem dX6_readRoad_80 : decode cX6_readRoad 80 = .ok (.goto 4, 3) := by decide +kernel
theorem dX6_readRoad_83 : decode cX6_readRoad 83 = .ok (.iconst 0, 1) := by decide +kernel
theorem dX6_readRoad_84 : decode cX6_readRoad 84 = .ok (.ireturn, 1) := by decide +kernel
set_option maxRecDepth 20000 in
theorem ggX6_readCart_X6_nextToken : GoodIn wsX6_readCart wsX6_nextToken := goodIn_r _ [7, 8, 9, 10, 11, 12, 13, 6, 14, 15, 16, 17, 27, 28, 29, 30, 31, 32, 33, 34, 35, 36] (by decide +kernel) (by decide +kernel)
set_option maxRecDepth 20000 in
theorem gX6_readCart_X6_nextToken : GoodIn wsX6_readCart (wsV RX6 46 RX6 yX6_nextToken wsX6_nextToken) := goodIn_app (goodIn_of _ (by decide +kernel)) ggX6_readCart_X6_nextToken
set_option maxRecDepth 20000 in
theorem ggX6_readCart_X6_readNumber : GoodIn wsX6_readCart wsX6_readNumber := goodIn_r _ [21, 8, 9, 11, 22, 23, 15, 16, 6, 17, 24, 25, 26, 3, 4, 5, 7, 10, 12, 13, 14, 27, 28, 29, 30, 31, 32, 33, 34, 35, 36] (by decide +kernel) (by decide +kernel)
set_option maxRecDepth 20000 in
theorem gX6_readCart_X6_readNumber : GoodIn wsX6_readCart (wsV RX6 88 RX6 yX6_readNumber wsX6_readNumber) := goodIn_app (goodIn_of _ (by decide +kernel)) ggX6_readCart_X6_readNumber
theorem dX6_readCart_0 : decode cX6_readCart 0 = .ok (.aload_n 0, 1) := by decide +kernel
theorem dX6_readCart_1 : decode cX6_readCart 1 = .ok (.getfield 39, 3) := by decide +kernel
theorem dX6_readCart_4 : decode cX6_readCart 4 = .ok (.iconst 4, 1) := by decide +kernel
theorem dX6_readCart_5 : decode cX6_readCart 5 = .ok (.if_icmp .lt 5, 3) := by decide +kernel
theorem dX6_readCart_8 : decode cX6_readCart 8 = .ok (.iconst 0, 1) := by decide +kernel
theorem dX6_readCart_9 : decode cX6_readCart 9 = .ok (.ireturn, 1) := by decide +kernel
theorem dX6_readCart_10 : decode cX6_readCart 10 = .ok (.aload_n 0, 1) := by decide +kernel
theorem dX6_readCart_11 : decode cX6_readCart 11 = .ok (.dup, 1) := by decide +kernel
theorem dX6_readCart_12 : decode cX6_readCart 12 = .ok (.getfield 39, 3) := by decide +kernel
theorem dX6_readCart_15 : decode cX6_readCart 15 = .ok (.iconst 1, 1) := by decide +kernel
theorem dX6_readCart_16 : decode cX6_readCart 16 = .ok (.iadd, 1) := by decide +kernel
theorem dX6_readCart_17 : decode cX6_readCart 17 = .ok (.putfield 39, 3) := by decide +kernel
theorem dX6_readCart_20 : decode cX6_readCart 20 = .ok (.aload_n 0, 1) := by decide +kernel
theorem dX6_readCart_21 : decode cX6_readCart 21 = .ok (.invokevirtual 46, 3) := by decide +kernel
theorem dX6_readCart_24 : decode cX6_readCart 24 = .ok (.aload_n 0, 1) := by decide +kernel
theorem dX6_readCart_25 : decode cX6_readCart 25 = .ok (.iconst 0, 1) := by decide +kernel
theorem dX6_readCart_26 : decode cX6_readCart 26 = .ok (.iconst 0, 1) := by decide +kernel
theorem dX6_readCart_27 : decode cX6_readCart 27 = .ok (.aload_n 0, 1) := by decide +kernel
theorem dX6_readCart_28 : decode cX6_readCart 28 = .ok (.getfield 31, 3) := by decide +kernel
theorem dX6_readCart_31 : decode cX6_readCart 31 = .ok (.iconst 1, 1) := by decide +kernel
theorem dX6_readCart_32 : decode cX6_readCart 32 = .ok (.isub, 1) := by decide +kernel
theorem dX6_readCart_33 : decode cX6_readCart 33 = .ok (.iconst (-1), 1) := by decide +kernel
theorem dX6_readCart_34 : decode cX6_readCart 34 = .ok (.invokevirtual 88, 3) := by decide +kernel
theorem dX6_readCart_37 : decode cX6_readCart 37 = .ok (.ifCond .eq 18, 3) := by decide +kernel
theorem dX6_readCart_40 : decode cX6_readCart 40 = .ok (.aload_n 0, 1) := by decide +kernel
theorem dX6_readCart_41 : decode cX6_readCart 41 = .ok (.iconst 1, 1) := by decide +kernel
theorem dX6_readCart_42 : decode cX6_readCart 42 = .ok (.iconst 0, 1) := by decide +kernel
theorem dX6_readCart_43 : decode cX6_readCart 43 = .ok (.iconst 3, 1) := by decide +kernel
theorem dX6_readCart_44 : decode cX6_readCart 44 = .ok (.iconst (-1), 1) := by decide +kernel
theorem dX6_readCart_45 : decode cX6_readCart 45 = .ok (.invokevirtual 88, 3) := by decide +kernel
theorem dX6_readCart_48 : decode cX6_readCart 48 = .ok (.ifCond .eq 7, 3) := by decide +kernel
theorem dX6_readCart_51 : decode cX6_readCart 51 = .ok (.iconst 1, 1) := by decide +kernel
theorem dX6_readCart_52 : decode cX6_readCart 52 = .ok (.goto 4, 3) := by decide +kernel
theorem dX6_readCart_55 : decode cX6_readCart 55 = .ok (.iconst 0, 1) := by decide +kernel
theorem dX6_readCart_56 : decode cX6_readCart 56 = .ok (.ireturn, 1) := by decide +kernel
set_option maxRecDepth 20000 in
theorem ggX6_readNumber_X6_isDigit : GoodIn wsX6_readNumber wsX6_isDigit := goodIn_r _ [9] (by decide +kernel) (by decide +kernel)
set_option maxRecDepth 20000 in
theorem gX6_readNumber_X6_isDigit : GoodIn wsX6_readNumber (va_wsS RX6 92 yX6_isDigit wsX6_isDigit) := goodIn_app (goodIn_of _ (by decide +kernel)) ggX6_readNumber_X6_isDigit
set_option maxRecDepth 20000 in
theorem ggX6_readNumber_X10_within : GoodIn wsX6_readNumber wsX10_within := goodIn_r _ [12] (by decide +kernel) (by decide +kernel)
set_option maxRecDepth 20000 in
theorem gX6_readNumber_X10_within_n96 : GoodIn wsX6_readNumber (wsX10_within) := ggX6_readNumber_X10_within
set_option maxRecDepth 20000 in
theorem ggX6_readNumber_X6_nextToken : GoodIn wsX6_readNumber wsX6_nextToken := goodIn_r _ [16, 1, 2, 17, 3, 18, 19, 8, 20, 6, 7, 9, 21, 22, 23, 24, 25, 26, 27, 28, 29, 30] (by decide +kernel) (by decide +kernel)
set_option maxRecDepth 20000 in
theorem gX6_readNumber_X6_nextToken : GoodIn wsX6_readNumber (wsV RX6 46 RX6 yX6_nextToken wsX6_nextToken) := goodIn_app (goodIn_of _ (by decide +kernel)) ggX6_readNumber_X6_nextToken
theorem dX6_readNumber_0 : decode cX6_readNumber 0 = .ok (.aload_n 0, 1) := by decide +kernel
theorem dX6_readNumber_1 : decode cX6_readNumber 1 = .ok (.getfield 43, 3) := by decide +kernel
theorem dX6_readNumber_4 : decode cX6_readNumber 4 = .ok (.aload_n 0, 1) := by decide +kernel
theorem dX6_readNumber_5 : decode cX6_readNumber 5 = .ok (.getfield 53, 3) := by decide +kernel
theorem dX6_readNumber_8 : decode cX6_readNumber 8 = .ok (.isub, 1) := by decide +kernel
theorem dX6_readNumber_9 : decode cX6_readNumber 9 = .ok (.istore 5, 2) := by decide +kernel
theorem dX6_readNumber_11 : decode cX6_readNumber 11 = .ok (.iload 5, 2) := by decide +kernel
theorem dX6_readNumber_13 : decode cX6_readNumber 13 = .ok (.iconst 1, 1) := by decide +kernel
theorem dX6_readNumber_14 : decode cX6_readNumber 14 = .ok (.if_icmp .lt 24, 3) := by decide +kernel
theorem dX6_readNumber_17 : decode cX6_readNumber 17 = .ok (.iload 5, 2) := by decide +kernel
theorem dX6_readNumber_19 : decode cX6_readNumber 19 = .ok (.iconst 2, 1) := by decide +kernel
theorem dX6_readNumber_20 : decode cX6_readNumber 20 = .ok (.if_icmp .gt 18, 3) := by decide +kernel
theorem dX6_readNumber_23 : decode cX6_readNumber 23 = .ok (.aload_n 0, 1) := by decide +kernel
theorem dX6_readNumber_24 : decode cX6_readNumber 24 = .ok (.getfield 11, 3) := by decide +kernel
theorem dX6_readNumber_27 : decode cX6_readNumber 27 = .ok (.aload_n 0, 1) := by decide +kernel
theorem dX6_readNumber_28 : decode cX6_readNumber 28 = .ok (.getfield 53, 3) := by decide +kernel
theorem dX6_readNumber_31 : decode cX6_readNumber 31 = .ok (.caload, 1) := by decide +kernel
theorem dX6_readNumber_32 : decode cX6_readNumber 32 = .ok (.invokestatic 92, 3) := by decide +kernel
theorem dX6_readNumber_35 : decode cX6_readNumber 35 = .ok (.ifCond .ne 5, 3) := by decide +kernel
theorem dX6_readNumber_38 : decode cX6_readNumber 38 = .ok (.iconst 0, 1) := by decide +kernel
theorem dX6_readNumber_39 : decode cX6_readNumber 39 = .ok (.ireturn, 1) := by decide +kernel
theorem dX6_readNumber_40 : decode cX6_readNumber 40 = .ok (.aload_n 0, 1) := by decide +kernel
theorem dX6_readNumber_41 : decode cX6_readNumber 41 = .ok (.getfield 11, 3) := by decide +kernel
theorem dX6_readNumber_44 : decode cX6_readNumber 44 = .ok (.aload_n 0, 1) := by decide +kernel
theorem dX6_readNumber_45 : decode cX6_readNumber 45 = .ok (.getfield 53, 3) := by decide +kernel
theorem dX6_readNumber_48 : decode cX6_readNumber 48 = .ok (.caload, 1) := by decide +kernel
theorem dX6_readNumber_49 : decode cX6_readNumber 49 = .ok (.bipush 48, 2) := by decide +kernel
theorem dX6_readNumber_51 : decode cX6_readNumber 51 = .ok (.isub, 1) := by decide +kernel
theorem dX6_readNumber_52 : decode cX6_readNumber 52 = .ok (.istore 6, 2) := by decide +kernel
theorem dX6_readNumber_54 : decode cX6_readNumber 54 = .ok (.iload 5, 2) := by decide +kernel
theorem dX6_readNumber_56 : decode cX6_readNumber 56 = .ok (.iconst 2, 1) := by decide +kernel
theorem dX6_readNumber_57 : decode cX6_readNumber 57 = .ok (.if_icmp .ne 25, 3) := by decide +kernel
theorem dX6_readNumber_60 : decode cX6_readNumber 60 = .ok (.bipush 10, 2) := by decide +kernel
theorem dX6_readNumber_62 : decode cX6_readNumber 62 = .ok (.iload 6, 2) := by decide +kernel
theorem dX6_readNumber_64 : decode cX6_readNumber 64 = .ok (.imul, 1) := by decide +kernel
theorem dX6_readNumber_65 : decode cX6_readNumber 65 = .ok (.aload_n 0, 1) := by decide +kernel
theorem dX6_readNumber_66 : decode cX6_readNumber 66 = .ok (.getfield 11, 3) := by decide +kernel
theorem dX6_readNumber_69 : decode cX6_readNumber 69 = .ok (.aload_n 0, 1) := by decide +kernel
theorem dX6_readNumber_70 : decode cX6_readNumber 70 = .ok (.getfield 53, 3) := by decide +kernel
theorem dX6_readNumber_73 : decode cX6_readNumber 73 = .ok (.iconst 1, 1) := by decide +kernel
theorem dX6_readNumber_74 : decode cX6_readNumber 74 = .ok (.iadd, 1) := by decide +kernel
theorem dX6_readNumber_75 : decode cX6_readNumber 75 = .ok (.caload, 1) := by decide +kernel
theorem dX6_readNumber_76 : decode cX6_readNumber 76 = .ok (.iadd, 1) := by decide +kernel
theorem dX6_readNumber_77 : decode cX6_readNumber 77 = .ok (.bipush 48, 2) := by decide +kernel
theorem dX6_readNumber_79 : decode cX6_readNumber 79 = .ok (.isub, 1) := by decide +kernel
theorem dX6_readNumber_80 : decode cX6_readNumber 80 = .ok (.istore 6, 2) := by decide +kernel
theorem dX6_readNumber_82 : decode cX6_readNumber 82 = .ok (.iload 6, 2) := by decide +kernel
theorem dX6_readNumber_84 : decode cX6_readNumber 84 = .ok (.iload_n 2, 1) := by decide +kernel
theorem dX6_readNumber_85 : decode cX6_readNumber 85 = .ok (.iload_n 3, 1) := by decide +kernel
theorem dX6_readNumber_86 : decode cX6_readNumber 86 = .ok (.invokestatic 96, 3) := by decide +kernel
theorem dX6_readNumber_89 : decode cX6_readNumber 89 = .ok (.ifCond .eq 10, 3) := by decide +kernel
theorem dX6_readNumber_92 : decode cX6_readNumber 92 = .ok (.iload 6, 2) := by decide +kernel
theorem dX6_readNumber_94 : decode cX6_readNumber 94 = .ok (.iload 4, 2) := by decide +kernel
theorem dX6_readNumber_96 : decode cX6_readNumber 96 = .ok (.if_icmp .ne 5, 3) := by decide +kernel
theorem dX6_readNumber_99 : decode cX6_readNumber 99 = .ok (.iconst 0, 1) := by decide +kernel
theorem dX6_readNumber_100 : decode cX6_readNumber 100 = .ok (.ireturn, 1) := by decide +kernel
theorem dX6_readNumber_101 : decode cX6_readNumber 101 = .ok (.aload_n 0, 1) := by decide +kernel
theorem dX6_readNumber_102 : decode cX6_readNumber 102 = .ok (.getfield 19, 3) := by decide +kernel
theorem dX6_readNumber_105 : decode cX6_readNumber 105 = .ok (.aload_n 0, 1) := by decide +kernel
theorem dX6_readNumber_106 : decode cX6_readNumber 106 = .ok (.getfield 40, 3) := by decide +kernel
theorem dX6_readNumber_109 : decode cX6_readNumber 109 = .ok (.iconst 3, 1) := by decide +kernel
theorem dX6_readNumber_110 : decode cX6_readNumber 110 = .ok (.imul, 1) := by decide +kernel
theorem dX6_readNumber_111 : decode cX6_readNumber 111 = .ok (.iload_n 1, 1) := by decide +kernel
theorem dX6_readNumber_112 : decode cX6_readNumber 112 = .ok (.iadd, 1) := by decide +kernel
theorem dX6_readNumber_113 : decode cX6_readNumber 113 = .ok (.iload 6, 2) := by decide +kernel
theorem dX6_readNumber_115 : decode cX6_readNumber 115 = .ok (.iastore, 1) := by decide +kernel
theorem dX6_readNumber_116 : decode cX6_readNumber 116 = .ok (.aload_n 0, 1) := by decide +kernel
theorem dX6_readNumber_117 : decode cX6_readNumber 117 = .ok (.invokevirtual 46, 3) := by decide +kernel
theorem dX6_readNumber_120 : decode cX6_readNumber 120 = .ok (.iconst 1, 1) := by decide +kernel
theorem dX6_readNumber_121 : decode cX6_readNumber 121 = .ok (.ireturn, 1) := by decide +kernel
set_option maxRecDepth 20000 in
theorem ggX6_nextToken_X6_isSmall : GoodIn wsX6_nextToken wsX6_isSmall := goodIn_r _ [8] (by decide +kernel) (by decide +kernel)
set_option maxRecDepth 20000 in
theorem gX6_nextToken_X6_isSmall : GoodIn wsX6_nextToken (va_wsS RX6 100 yX6_isSmall wsX6_isSmall) := goodIn_app (goodIn_of _ (by decide +kernel)) ggX6_nextToken_X6_isSmall
set_option maxRecDepth 20000 in
theorem ggX6_nextToken_X6_isDigit : GoodIn wsX6_nextToken wsX6_isDigit := goodIn_r _ [11] (by decide +kernel) (by decide +kernel)
set_option maxRecDepth 20000 in
theorem gX6_nextToken_X6_isDigit : GoodIn wsX6_nextToken (va_wsS RX6 92 yX6_isDigit wsX6_isDigit) := goodIn_app (goodIn_of _ (by decide +kernel)) ggX6_nextToken_X6_isDigit
theorem dX6_nextToken_0 : decode cX6_nextToken 0 = .ok (.aload_n 0, 1) := by decide +kernel
theorem dX6_nextToken_1 : decode cX6_nextToken 1 = .ok (.aload_n 0, 1) := by decide +kernel
theorem dX6_nextToken_2 : decode cX6_nextToken 2 = .ok (.getfield 43, 3) := by decide +kernel
theorem dX6_nextToken_5 : decode cX6_nextToken 5 = .ok (.putfield 53, 3) := by decide +kernel
theorem dX6_nextToken_8 : decode cX6_nextToken 8 = .ok (.aload_n 0, 1) := by decide +kernel
theorem dX6_nextToken_9 : decode cX6_nextToken 9 = .ok (.getfield 53, 3) := by decide +kernel
theorem dX6_nextToken_12 : decode cX6_nextToken 12 = .ok (.aload_n 0, 1) := by decide +kernel
theorem dX6_nextToken_13 : decode cX6_nextToken 13 = .ok (.getfield 22, 3) := by decide +kernel
theorem dX6_nextToken_16 : decode cX6_nextToken 16 = .ok (.if_icmp .ge 30, 3) := by decide +kernel
theorem dX6_nextToken_19 : decode cX6_nextToken 19 = .ok (.aload_n 0, 1) := by decide +kernel
theorem dX6_nextToken_20 : decode cX6_nextToken 20 = .ok (.getfield 11, 3) := by decide +kernel
theorem dX6_nextToken_23 : decode cX6_nextToken 23 = .ok (.aload_n 0, 1) := by decide +kernel
theorem dX6_nextToken_24 : decode cX6_nextToken 24 = .ok (.getfield 53, 3) := by decide +kernel
theorem dX6_nextToken_27 : decode cX6_nextToken 27 = .ok (.caload, 1) := by decide +kernel
theorem dX6_nextToken_28 : decode cX6_nextToken 28 = .ok (.bipush 32, 2) := by decide +kernel
theorem dX6_nextToken_30 : decode cX6_nextToken 30 = .ok (.if_icmp .ne 16, 3) := by decide +kernel
theorem dX6_nextToken_33 : decode cX6_nextToken 33 = .ok (.aload_n 0, 1) := by decide +kernel
theorem dX6_nextToken_34 : decode cX6_nextToken 34 = .ok (.dup, 1) := by decide +kernel
theorem dX6_nextToken_35 : decode cX6_nextToken 35 = .ok (.getfield 53, 3) := by decide +kernel
theorem dX6_nextToken_38 : decode cX6_nextToken 38 = .ok (.iconst 1, 1) := by decide +kernel
theorem dX6_nextToken_39 : decode cX6_nextToken 39 = .ok (.iadd, 1) := by decide +kernel
theorem dX6_nextToken_40 : decode cX6_nextToken 40 = .ok (.putfield 53, 3) := by decide +kernel
theorem dX6_nextToken_43 : decode cX6_nextToken 43 = .ok (.goto (-35), 3) := by decide +kernel
theorem dX6_nextToken_46 : decode cX6_nextToken 46 = .ok (.aload_n 0, 1) := by decide +kernel
theorem dX6_nextToken_47 : decode cX6_nextToken 47 = .ok (.aload_n 0, 1) := by decide +kernel
theorem dX6_nextToken_48 : decode cX6_nextToken 48 = .ok (.getfield 53, 3) := by decide +kernel
theorem dX6_nextToken_51 : decode cX6_nextToken 51 = .ok (.putfield 43, 3) := by decide +kernel
theorem dX6_nextToken_54 : decode cX6_nextToken 54 = .ok (.aload_n 0, 1) := by decide +kernel
theorem dX6_nextToken_55 : decode cX6_nextToken 55 = .ok (.getfield 43, 3) := by decide +kernel
theorem dX6_nextToken_58 : decode cX6_nextToken 58 = .ok (.aload_n 0, 1) := by decide +kernel
theorem dX6_nextToken_59 : decode cX6_nextToken 59 = .ok (.getfield 22, 3) := by decide +kernel
theorem dX6_nextToken_62 : decode cX6_nextToken 62 = .ok (.if_icmp .lt 4, 3) := by decide +kernel
theorem dX6_nextToken_65 : decode cX6_nextToken 65 = .ok (.return_, 1) := by decide +kernel
theorem dX6_nextToken_66 : decode cX6_nextToken 66 = .ok (.aload_n 0, 1) := by decide +kernel
theorem dX6_nextToken_67 : decode cX6_nextToken 67 = .ok (.getfield 11, 3) := by decide +kernel
theorem dX6_nextToken_70 : decode cX6_nextToken 70 = .ok (.aload_n 0, 1) := by decide +kernel
theorem dX6_nextToken_71 : decode cX6_nextToken 71 = .ok (.getfield 53, 3) := by decide +kernel
theorem dX6_nextToken_74 : decode cX6_nextToken 74 = .ok (.caload, 1) := by decide +kernel
theorem dX6_nextToken_75 : decode cX6_nextToken 75 = .ok (.invokestatic 100, 3) := by decide +kernel
theorem dX6_nextToken_78 : decode cX6_nextToken 78 = .ok (.istore_n 1, 1) := by decide +kernel
theorem dX6_nextToken_79 : decode cX6_nextToken 79 = .ok (.aload_n 0, 1) := by decide +kernel
theorem dX6_nextToken_80 : decode cX6_nextToken 80 = .ok (.getfield 11, 3) := by decide +kernel
theorem dX6_nextToken_83 : decode cX6_nextToken 83 = .ok (.aload_n 0, 1) := by decide +kernel
theorem dX6_nextToken_84 : decode cX6_nextToken 84 = .ok (.getfield 53, 3) := by decide +kernel
theorem dX6_nextToken_87 : decode cX6_nextToken 87 = .ok (.caload, 1) := by decide +kernel
theorem dX6_nextToken_88 : decode cX6_nextToken 88 = .ok (.invokestatic 92, 3) := by decide +kernel
theorem dX6_nextToken_91 : decode cX6_nextToken 91 = .ok (.istore_n 2, 1) := by decide +kernel
theorem dX6_nextToken_92 : decode cX6_nextToken 92 = .ok (.aload_n 0, 1) := by decide +kernel
theorem dX6_nextToken_93 : decode cX6_nextToken 93 = .ok (.dup, 1) := by decide +kernel
theorem dX6_nextToken_94 : decode cX6_nextToken 94 = .ok (.getfield 43, 3) := by decide +kernel
theorem dX6_nextToken_97 : decode cX6_nextToken 97 = .ok (.iconst 1, 1) := by decide +kernel
theorem dX6_nextToken_98 : decode cX6_nextToken 98 = .ok (.iadd, 1) := by decide +kernel
theorem dX6_nextToken_99 : decode cX6_nextToken 99 = .ok (.putfield 43, 3) := by decide +kernel
theorem dX6_nextToken_102 : decode cX6_nextToken 102 = .ok (.aload_n 0, 1) := by decide +kernel
theorem dX6_nextToken_103 : decode cX6_nextToken 103 = .ok (.getfield 43, 3) := by decide +kernel
theorem dX6_nextToken_106 : decode cX6_nextToken 106 = .ok (.aload_n 0, 1) := by decide +kernel
theorem dX6_nextToken_107 : decode cX6_nextToken 107 = .ok (.getfield 22, 3) := by decide +kernel
theorem dX6_nextToken_110 : decode cX6_nextToken 110 = .ok (.if_icmp .ge 54, 3) := by decide +kernel
theorem dX6_nextToken_113 : decode cX6_nextToken 113 = .ok (.iload_n 1, 1) := by decide +kernel
theorem dX6_nextToken_114 : decode cX6_nextToken 114 = .ok (.ifCond .eq 18, 3) := by decide +kernel
theorem dX6_nextToken_117 : decode cX6_nextToken 117 = .ok (.aload_n 0, 1) := by decide +kernel
theorem dX6_nextToken_118 : decode cX6_nextToken 118 = .ok (.getfield 11, 3) := by decide +kernel
theorem dX6_nextToken_121 : decode cX6_nextToken 121 = .ok (.aload_n 0, 1) := by decide +kernel
theorem dX6_nextToken_122 : decode cX6_nextToken 122 = .ok (.getfield 43, 3) := by decide +kernel
theorem dX6_nextToken_125 : decode cX6_nextToken 125 = .ok (.caload, 1) := by decide +kernel
theorem dX6_nextToken_126 : decode cX6_nextToken 126 = .ok (.invokestatic 100, 3) := by decide +kernel
theorem dX6_nextToken_129 : decode cX6_nextToken 129 = .ok (.ifCond .ne 22, 3) := by decide +kernel
theorem dX6_nextToken_132 : decode cX6_nextToken 132 = .ok (.iload_n 2, 1) := by decide +kernel
theorem dX6_nextToken_133 : decode cX6_nextToken 133 = .ok (.ifCond .eq 31, 3) := by decide +kernel
theorem dX6_nextToken_136 : decode cX6_nextToken 136 = .ok (.aload_n 0, 1) := by decide +kernel
theorem dX6_nextToken_137 : decode cX6_nextToken 137 = .ok (.getfield 11, 3) := by decide +kernel
theorem dX6_nextToken_140 : decode cX6_nextToken 140 = .ok (.aload_n 0, 1) := by decide +kernel
theorem dX6_nextToken_141 : decode cX6_nextToken 141 = .ok (.getfield 43, 3) := by decide +kernel
theorem dX6_nextToken_144 : decode cX6_nextToken 144 = .ok (.caload, 1) := by decide +kernel
theorem dX6_nextToken_145 : decode cX6_nextToken 145 = .ok (.invokestatic 92, 3) := by decide +kernel
theorem dX6_nextToken_148 : decode cX6_nextToken 148 = .ok (.ifCond .eq 16, 3) := by decide +kernel
theorem dX6_nextToken_151 : decode cX6_nextToken 151 = .ok (.aload_n 0, 1) := by decide +kernel
theorem dX6_nextToken_152 : decode cX6_nextToken 152 = .ok (.dup, 1) := by decide +kernel
theorem dX6_nextToken_153 : decode cX6_nextToken 153 = .ok (.getfield 43, 3) := by decide +kernel
theorem dX6_nextToken_156 : decode cX6_nextToken 156 = .ok (.iconst 1, 1) := by decide +kernel
theorem dX6_nextToken_157 : decode cX6_nextToken 157 = .ok (.iadd, 1) := by decide +kernel
theorem dX6_nextToken_158 : decode cX6_nextToken 158 = .ok (.putfield 43, 3) := by decide +kernel
theorem dX6_nextToken_161 : decode cX6_nextToken 161 = .ok (.goto (-59), 3) := by decide +kernel
theorem dX6_nextToken_164 : decode cX6_nextToken 164 = .ok (.return_, 1) := by decide +kernel
set_option maxRecDepth 20000 in
theorem ggX6_wordInHand_X6_spells : GoodIn wsX6_wordInHand wsX6_spells := goodIn_r _ [5, 6, 7, 8, 9, 10, 11, 12, 13, 14, 15, 16, 17, 18, 19, 20, 21, 22, 23, 24, 25, 26, 27, 28, 29, 30, 31, 32, 33, 34, 35, 36, 37, 38, 39, 40, 41, 42, 43, 44, 45, 46, 47, 48, 49, 50, 51, 52, 53, 54, 55, 56, 57, 58, 59, 60, 61, 66, 67, 68, 69, 70, 71, 72, 73, 74, 75] (by decide +kernel) (by decide +kernel)
set_option maxRecDepth 20000 in
theorem gX6_wordInHand_X6_spells : GoodIn wsX6_wordInHand (wsV RX6 105 RX6 yX6_spells wsX6_spells) := goodIn_app (goodIn_of _ (by decide +kernel)) ggX6_wordInHand_X6_spells
set_option maxRecDepth 20000 in
theorem ggX6_wordInHand_X6_kindOf : GoodIn wsX6_wordInHand wsX6_kindOf := goodIn_r _ [65, 1, 2, 3, 4, 5, 6, 7, 8, 9, 10, 11, 12, 13, 14, 15, 16, 17, 18, 19, 20, 21, 22, 23, 24, 25, 26, 27, 28, 29, 30, 31, 32, 33, 34, 35, 36, 37, 38, 39, 40, 41, 42, 43, 44, 45, 46, 47, 48, 49, 50, 51, 52, 53, 54, 55, 56, 57, 58, 59, 60, 61, 66, 67, 68, 69, 70, 71, 72, 73, 74, 75] (by decide +kernel) (by decide +kernel)
set_option maxRecDepth 20000 in
theorem gX6_wordInHand_X6_kindOf : GoodIn wsX6_wordInHand (wsV RX6 120 RX6 yX6_kindOf wsX6_kindOf) := goodIn_app (goodIn_of _ (by decide +kernel)) ggX6_wordInHand_X6_kindOf
theorem dX6_wordInHand_0 : decode cX6_wordInHand 0 = .ok (.aload_n 0, 1) := by decide +kernel
theorem dX6_wordInHand_1 : decode cX6_wordInHand 1 = .ok (.ldc 103, 2) := by decide +kernel
theorem dX6_wordInHand_3 : decode cX6_wordInHand 3 = .ok (.invokevirtual 105, 3) := by decide +kernel
theorem dX6_wordInHand_6 : decode cX6_wordInHand 6 = .ok (.ifCond .eq 5, 3) := by decide +kernel
theorem dX6_wordInHand_9 : decode cX6_wordInHand 9 = .ok (.iconst 0, 1) := by decide +kernel
theorem dX6_wordInHand_10 : decode cX6_wordInHand 10 = .ok (.ireturn, 1) := by decide +kernel
theorem dX6_wordInHand_11 : decode cX6_wordInHand 11 = .ok (.aload_n 0, 1) := by decide +kernel
theorem dX6_wordInHand_12 : decode cX6_wordInHand 12 = .ok (.ldc 109, 2) := by decide +kernel
theorem dX6_wordInHand_14 : decode cX6_wordInHand 14 = .ok (.invokevirtual 105, 3) := by decide +kernel
theorem dX6_wordInHand_17 : decode cX6_wordInHand 17 = .ok (.ifCond .eq 6, 3) := by decide +kernel
theorem dX6_wordInHand_20 : decode cX6_wordInHand 20 = .ok (.bipush 11, 2) := by decide +kernel
theorem dX6_wordInHand_22 : decode cX6_wordInHand 22 = .ok (.ireturn, 1) := by decide +kernel
theorem dX6_wordInHand_23 : decode cX6_wordInHand 23 = .ok (.aload_n 0, 1) := by decide +kernel
theorem dX6_wordInHand_24 : decode cX6_wordInHand 24 = .ok (.ldc 110, 2) := by decide +kernel
theorem dX6_wordInHand_26 : decode cX6_wordInHand 26 = .ok (.invokevirtual 105, 3) := by decide +kernel
theorem dX6_wordInHand_29 : decode cX6_wordInHand 29 = .ok (.ifCond .eq 6, 3) := by decide +kernel
theorem dX6_wordInHand_32 : decode cX6_wordInHand 32 = .ok (.bipush 12, 2) := by decide +kernel
theorem dX6_wordInHand_34 : decode cX6_wordInHand 34 = .ok (.ireturn, 1) := by decide +kernel
theorem dX6_wordInHand_35 : decode cX6_wordInHand 35 = .ok (.aload_n 0, 1) := by decide +kernel
theorem dX6_wordInHand_36 : decode cX6_wordInHand 36 = .ok (.ldc 112, 2) := by decide +kernel
theorem dX6_wordInHand_38 : decode cX6_wordInHand 38 = .ok (.ldc 114, 2) := by decide +kernel
theorem dX6_wordInHand_40 : decode cX6_wordInHand 40 = .ok (.ldc 116, 2) := by decide +kernel
theorem dX6_wordInHand_42 : decode cX6_wordInHand 42 = .ok (.ldc 118, 2) := by decide +kernel
theorem dX6_wordInHand_44 : decode cX6_wordInHand 44 = .ok (.invokevirtual 120, 3) := by decide +kernel
theorem dX6_wordInHand_47 : decode cX6_wordInHand 47 = .ok (.istore_n 1, 1) := by decide +kernel
theorem dX6_wordInHand_48 : decode cX6_wordInHand 48 = .ok (.iload_n 1, 1) := by decide +kernel
theorem dX6_wordInHand_49 : decode cX6_wordInHand 49 = .ok (.iconst (-1), 1) := by decide +kernel
theorem dX6_wordInHand_50 : decode cX6_wordInHand 50 = .ok (.if_icmp .eq 7, 3) := by decide +kernel
theorem dX6_wordInHand_53 : decode cX6_wordInHand 53 = .ok (.iconst 1, 1) := by decide +kernel
theorem dX6_wordInHand_54 : decode cX6_wordInHand 54 = .ok (.iload_n 1, 1) := by decide +kernel
theorem dX6_wordInHand_55 : decode cX6_wordInHand 55 = .ok (.iadd, 1) := by decide +kernel
theorem dX6_wordInHand_56 : decode cX6_wordInHand 56 = .ok (.ireturn, 1) := by decide +kernel
theorem dX6_wordInHand_57 : decode cX6_wordInHand 57 = .ok (.aload_n 0, 1) := by decide +kernel
theorem dX6_wordInHand_58 : decode cX6_wordInHand 58 = .ok (.ldc 124, 2) := by decide +kernel
theorem dX6_wordInHand_60 : decode cX6_wordInHand 60 = .ok (.ldc 126, 2) := by decide +kernel
theorem dX6_wordInHand_62 : decode cX6_wordInHand 62 = .ok (.ldc 128, 2) := by decide +kernel
theorem dX6_wordInHand_64 : decode cX6_wordInHand 64 = .ok (.ldc 130, 2) := by decide +kernel
theorem dX6_wordInHand_66 : decode cX6_wordInHand 66 = .ok (.invokevirtual 120, 3) := by decide +kernel
theorem dX6_wordInHand_69 : decode cX6_wordInHand 69 = .ok (.istore_n 2, 1) := by decide +kernel
theorem dX6_wordInHand_70 : decode cX6_wordInHand 70 = .ok (.iload_n 2, 1) := by decide +kernel
theorem dX6_wordInHand_71 : decode cX6_wordInHand 71 = .ok (.iconst (-1), 1) := by decide +kernel
theorem dX6_wordInHand_72 : decode cX6_wordInHand 72 = .ok (.if_icmp .eq 7, 3) := by decide +kernel
theorem dX6_wordInHand_75 : decode cX6_wordInHand 75 = .ok (.iconst 5, 1) := by decide +kernel
theorem dX6_wordInHand_76 : decode cX6_wordInHand 76 = .ok (.iload_n 2, 1) := by decide +kernel
theorem dX6_wordInHand_77 : decode cX6_wordInHand 77 = .ok (.iadd, 1) := by decide +kernel
theorem dX6_wordInHand_78 : decode cX6_wordInHand 78 = .ok (.ireturn, 1) := by decide +kernel
theorem dX6_wordInHand_79 : decode cX6_wordInHand 79 = .ok (.aload_n 0, 1) := by decide +kernel
theorem dX6_wordInHand_80 : decode cX6_wordInHand 80 = .ok (.ldc 132, 2) := by decide +kernel
theorem dX6_wordInHand_82 : decode cX6_wordInHand 82 = .ok (.ldc 134, 2) := by decide +kernel
theorem dX6_wordInHand_84 : decode cX6_wordInHand 84 = .ok (.ldc 136, 2) := by decide +kernel
theorem dX6_wordInHand_86 : decode cX6_wordInHand 86 = .ok (.ldc 130, 2) := by decide +kernel
theorem dX6_wordInHand_88 : decode cX6_wordInHand 88 = .ok (.invokevirtual 120, 3) := by decide +kernel
theorem dX6_wordInHand_91 : decode cX6_wordInHand 91 = .ok (.istore_n 3, 1) := by decide +kernel
theorem dX6_wordInHand_92 : decode cX6_wordInHand 92 = .ok (.iload_n 3, 1) := by decide +kernel
theorem dX6_wordInHand_93 : decode cX6_wordInHand 93 = .ok (.iconst (-1), 1) := by decide +kernel
theorem dX6_wordInHand_94 : decode cX6_wordInHand 94 = .ok (.if_icmp .eq 10, 3) := by decide +kernel
theorem dX6_wordInHand_97 : decode cX6_wordInHand 97 = .ok (.bipush 8, 2) := by decide +kernel
theorem dX6_wordInHand_99 : decode cX6_wordInHand 99 = .ok (.iload_n 3, 1) := by decide +kernel
theorem dX6_wordInHand_100 : decode cX6_wordInHand 100 = .ok (.iadd, 1) := by decide +kernel
theorem dX6_wordInHand_101 : decode cX6_wordInHand 101 = .ok (.goto 4, 3) := by decide +kernel
theorem dX6_wordInHand_104 : decode cX6_wordInHand 104 = .ok (.iconst (-1), 1) := by decide +kernel
theorem dX6_wordInHand_105 : decode cX6_wordInHand 105 = .ok (.ireturn, 1) := by decide +kernel
set_option maxRecDepth 20000 in
theorem ggX6_kindOf_X6_spells : GoodIn wsX6_kindOf wsX6_spells := goodIn_r _ [5, 6, 7, 8, 9, 10, 11, 12, 13, 14, 15, 16, 17, 18, 19, 20, 21, 22, 23, 24, 25, 26, 27, 28, 29, 30, 31, 32, 33, 34, 35, 36, 37, 38, 39, 40, 41, 42, 43, 44, 45, 46, 47, 48, 49, 50, 51, 52, 53, 54, 55, 56, 57, 58, 59, 60, 61, 62, 63, 64, 65, 66, 67, 68, 69, 70, 71] (by decide +kernel) (by decide +kernel)
set_option maxRecDepth 20000 in
theorem gX6_kindOf_X6_spells : GoodIn wsX6_kindOf (wsV RX6 105 RX6 yX6_spells wsX6_spells) := goodIn_app (goodIn_of _ (by decide +kernel)) ggX6_kindOf_X6_spells
theorem dX6_kindOf_0 : decode cX6_kindOf 0 = .ok (.aload_n 0, 1) := by decide +kernel
theorem dX6_kindOf_1 : decode cX6_kindOf 1 = .ok (.aload_n 1, 1) := by decide +kernel
theorem dX6_kindOf_2 : decode cX6_kindOf 2 = .ok (.invokevirtual 105, 3) := by decide +kernel
theorem dX6_kindOf_5 : decode cX6_kindOf 5 = .ok (.ifCond .eq 5, 3) := by decide +kernel
theorem dX6_kindOf_8 : decode cX6_kindOf 8 = .ok (.iconst 0, 1) := by decide +kernel
theorem dX6_kindOf_9 : decode cX6_kindOf 9 = .ok (.ireturn, 1) := by decide +kernel
theorem dX6_kindOf_10 : decode cX6_kindOf 10 = .ok (.aload_n 0, 1) := by decide +kernel
theorem dX6_kindOf_11 : decode cX6_kindOf 11 = .ok (.aload_n 2, 1) := by decide +kernel
theorem dX6_kindOf_12 : decode cX6_kindOf 12 = .ok (.invokevirtual 105, 3) := by decide +kernel
theorem dX6_kindOf_15 : decode cX6_kindOf 15 = .ok (.ifCond .eq 5, 3) := by decide +kernel
theorem dX6_kindOf_18 : decode cX6_kindOf 18 = .ok (.iconst 1, 1) := by decide +kernel
theorem dX6_kindOf_19 : decode cX6_kindOf 19 = .ok (.ireturn, 1) := by decide +kernel
theorem dX6_kindOf_20 : decode cX6_kindOf 20 = .ok (.aload_n 0, 1) := by decide +kernel
theorem dX6_kindOf_21 : decode cX6_kindOf 21 = .ok (.aload_n 3, 1) := by decide +kernel
theorem dX6_kindOf_22 : decode cX6_kindOf 22 = .ok (.invokevirtual 105, 3) := by decide +kernel
theorem dX6_kindOf_25 : decode cX6_kindOf 25 = .ok (.ifCond .eq 5, 3) := by decide +kernel
theorem dX6_kindOf_28 : decode cX6_kindOf 28 = .ok (.iconst 2, 1) := by decide +kernel
theorem dX6_kindOf_29 : decode cX6_kindOf 29 = .ok (.ireturn, 1) := by decide +kernel
theorem dX6_kindOf_30 : decode cX6_kindOf 30 = .ok (.aload_n 0, 1) := by decide +kernel
theorem dX6_kindOf_31 : decode cX6_kindOf 31 = .ok (.aload 4, 2) := by decide +kernel
theorem dX6_kindOf_33 : decode cX6_kindOf 33 = .ok (.invokevirtual 105, 3) := by decide +kernel
theorem dX6_kindOf_36 : decode cX6_kindOf 36 = .ok (.ifCond .eq 7, 3) := by decide +kernel
theorem dX6_kindOf_39 : decode cX6_kindOf 39 = .ok (.iconst 3, 1) := by decide +kernel
theorem dX6_kindOf_40 : decode cX6_kindOf 40 = .ok (.goto 4, 3) := by decide +kernel
theorem dX6_kindOf_43 : decode cX6_kindOf 43 = .ok (.iconst (-1), 1) := by decide +kernel
theorem dX6_kindOf_44 : decode cX6_kindOf 44 = .ok (.ireturn, 1) := by decide +kernel
set_option maxRecDepth 20000 in
theorem ggX6_spells_J0_isEmpty_aae02 : GoodIn wsX6_spells wsJ0_isEmpty_aae02 := goodIn_r _ [8, 9] (by decide +kernel) (by decide +kernel)
set_option maxRecDepth 20000 in
theorem gX6_spells_J0_isEmpty_aae02 : GoodIn wsX6_spells (wsV RX6 138 RJ0 yJ0_isEmpty_aae02 wsJ0_isEmpty_aae02) := goodIn_app (goodIn_of _ (by decide +kernel)) ggX6_spells_J0_isEmpty_aae02
set_option maxRecDepth 20000 in
theorem ggX6_spells_J0_length_8abf5 : GoodIn wsX6_spells wsJ0_length_8abf5 := goodIn_r _ [13, 9, 14, 15, 16, 7, 17, 18, 19] (by decide +kernel) (by decide +kernel)
set_option maxRecDepth 20000 in
theorem gX6_spells_J0_length_8abf5 : GoodIn wsX6_spells (wsV RX6 143 RJ0 yJ0_length_8abf5 wsJ0_length_8abf5) := goodIn_app (goodIn_of _ (by decide +kernel)) ggX6_spells_J0_length_8abf5
set_option maxRecDepth 20000 in
theorem ggX6_spells_J0_charAt_5068e : GoodIn wsX6_spells wsJ0_charAt_5068e := goodIn_r _ [23, 9, 24, 25, 26, 7, 27, 18, 19, 28, 29, 30, 31, 32, 33, 34, 35, 36, 37, 38, 39, 40, 41, 42, 43, 44, 45, 46, 47, 48, 49, 50, 51, 52, 53, 54, 55, 56] (by decide +kernel) (by decide +kernel)
set_option maxRecDepth 20000 in
theorem gX6_spells_J0_charAt_5068e : GoodIn wsX6_spells (wsV RX6 145 RJ0 yJ0_charAt_5068e wsJ0_charAt_5068e) := goodIn_app (goodIn_of _ (by decide +kernel)) ggX6_spells_J0_charAt_5068e
theorem dX6_spells_0 : decode cX6_spells 0 = .ok (.aload_n 1, 1) := by decide +kernel
theorem dX6_spells_1 : decode cX6_spells 1 = .ok (.invokevirtual 138, 3) := by decide +kernel
theorem dX6_spells_4 : decode cX6_spells 4 = .ok (.ifCond .ne 19, 3) := by decide +kernel
theorem dX6_spells_7 : decode cX6_spells 7 = .ok (.aload_n 0, 1) := by decide +kernel
theorem dX6_spells_8 : decode cX6_spells 8 = .ok (.getfield 43, 3) := by decide +kernel
theorem dX6_spells_11 : decode cX6_spells 11 = .ok (.aload_n 0, 1) := by decide +kernel
theorem dX6_spells_12 : decode cX6_spells 12 = .ok (.getfield 53, 3) := by decide +kernel
theorem dX6_spells_15 : decode cX6_spells 15 = .ok (.isub, 1) := by decide +kernel
theorem dX6_spells_16 : decode cX6_spells 16 = .ok (.aload_n 1, 1) := by decide +kernel
theorem dX6_spells_17 : decode cX6_spells 17 = .ok (.invokevirtual 143, 3) := by decide +kernel
theorem dX6_spells_20 : decode cX6_spells 20 = .ok (.if_icmp .eq 5, 3) := by decide +kernel
theorem dX6_spells_23 : decode cX6_spells 23 = .ok (.iconst 0, 1) := by decide +kernel
theorem dX6_spells_24 : decode cX6_spells 24 = .ok (.ireturn, 1) := by decide +kernel
theorem dX6_spells_25 : decode cX6_spells 25 = .ok (.iconst 0, 1) := by decide +kernel
theorem dX6_spells_26 : decode cX6_spells 26 = .ok (.istore_n 2, 1) := by decide +kernel
theorem dX6_spells_27 : decode cX6_spells 27 = .ok (.iload_n 2, 1) := by decide +kernel
theorem dX6_spells_28 : decode cX6_spells 28 = .ok (.aload_n 1, 1) := by decide +kernel
theorem dX6_spells_29 : decode cX6_spells 29 = .ok (.invokevirtual 143, 3) := by decide +kernel
theorem dX6_spells_32 : decode cX6_spells 32 = .ok (.if_icmp .ge 30, 3) := by decide +kernel
theorem dX6_spells_35 : decode cX6_spells 35 = .ok (.aload_n 0, 1) := by decide +kernel
theorem dX6_spells_36 : decode cX6_spells 36 = .ok (.getfield 11, 3) := by decide +kernel
theorem dX6_spells_39 : decode cX6_spells 39 = .ok (.aload_n 0, 1) := by decide +kernel
theorem dX6_spells_40 : decode cX6_spells 40 = .ok (.getfield 53, 3) := by decide +kernel
theorem dX6_spells_43 : decode cX6_spells 43 = .ok (.iload_n 2, 1) := by decide +kernel
theorem dX6_spells_44 : decode cX6_spells 44 = .ok (.iadd, 1) := by decide +kernel
theorem dX6_spells_45 : decode cX6_spells 45 = .ok (.caload, 1) := by decide +kernel
theorem dX6_spells_46 : decode cX6_spells 46 = .ok (.aload_n 1, 1) := by decide +kernel
theorem dX6_spells_47 : decode cX6_spells 47 = .ok (.iload_n 2, 1) := by decide +kernel
theorem dX6_spells_48 : decode cX6_spells 48 = .ok (.invokevirtual 145, 3) := by decide +kernel
theorem dX6_spells_51 : decode cX6_spells 51 = .ok (.if_icmp .eq 5, 3) := by decide +kernel
theorem dX6_spells_54 : decode cX6_spells 54 = .ok (.iconst 0, 1) := by decide +kernel
theorem dX6_spells_55 : decode cX6_spells 55 = .ok (.ireturn, 1) := by decide +kernel
theorem dX6_spells_56 : decode cX6_spells 56 = .ok (.iinc 2 1, 3) := by decide +kernel
theorem dX6_spells_59 : decode cX6_spells 59 = .ok (.goto (-32), 3) := by decide +kernel
theorem dX6_spells_62 : decode cX6_spells 62 = .ok (.iconst 1, 1) := by decide +kernel
theorem dX6_spells_63 : decode cX6_spells 63 = .ok (.ireturn, 1) := by decide +kernel
theorem dX6_isSmall_0 : decode cX6_isSmall 0 = .ok (.iload_n 0, 1) := by decide +kernel
theorem dX6_isSmall_1 : decode cX6_isSmall 1 = .ok (.bipush 97, 2) := by decide +kernel
theorem dX6_isSmall_3 : decode cX6_isSmall 3 = .ok (.if_icmp .lt 13, 3) := by decide +kernel
theorem dX6_isSmall_6 : decode cX6_isSmall 6 = .ok (.iload_n 0, 1) := by decide +kernel
theorem dX6_isSmall_7 : decode cX6_isSmall 7 = .ok (.bipush 122, 2) := by decide +kernel
theorem dX6_isSmall_9 : decode cX6_isSmall 9 = .ok (.if_icmp .gt 7, 3) := by decide +kernel
theorem dX6_isSmall_12 : decode cX6_isSmall 12 = .ok (.iconst 1, 1) := by decide +kernel
theorem dX6_isSmall_13 : decode cX6_isSmall 13 = .ok (.goto 4, 3) := by decide +kernel
theorem dX6_isSmall_16 : decode cX6_isSmall 16 = .ok (.iconst 0, 1) := by decide +kernel
theorem dX6_isSmall_17 : decode cX6_isSmall 17 = .ok (.ireturn, 1) := by decide +kernel
theorem dX6_isDigit_0 : decode cX6_isDigit 0 = .ok (.iload_n 0, 1) := by decide +kernel
theorem dX6_isDigit_1 : decode cX6_isDigit 1 = .ok (.bipush 48, 2) := by decide +kernel
theorem dX6_isDigit_3 : decode cX6_isDigit 3 = .ok (.if_icmp .lt 13, 3) := by decide +kernel
theorem dX6_isDigit_6 : decode cX6_isDigit 6 = .ok (.iload_n 0, 1) := by decide +kernel
theorem dX6_isDigit_7 : decode cX6_isDigit 7 = .ok (.bipush 57, 2) := by decide +kernel
theorem dX6_isDigit_9 : decode cX6_isDigit 9 = .ok (.if_icmp .gt 7, 3) := by decide +kernel
theorem dX6_isDigit_12 : decode cX6_isDigit 12 = .ok (.iconst 1, 1) := by decide +kernel
theorem dX6_isDigit_13 : decode cX6_isDigit 13 = .ok (.goto 4, 3) := by decide +kernel
theorem dX6_isDigit_16 : decode cX6_isDigit 16 = .ok (.iconst 0, 1) := by decide +kernel
theorem dX6_isDigit_17 : decode cX6_isDigit 17 = .ok (.ireturn, 1) := by decide +kernel
theorem dX7_init_0 : decode cX7_init 0 = .ok (.aload_n 0, 1) := by decide +kernel
theorem dX7_init_1 : decode cX7_init 1 = .ok (.invokespecial 1, 3) := by decide +kernel
theorem dX7_init_4 : decode cX7_init 4 = .ok (.aload_n 0, 1) := by decide +kernel
theorem dX7_init_5 : decode cX7_init 5 = .ok (.iconst 4, 1) := by decide +kernel
theorem dX7_init_6 : decode cX7_init 6 = .ok (.newarray .int, 2) := by decide +kernel
theorem dX7_init_8 : decode cX7_init 8 = .ok (.putfield 9, 3) := by decide +kernel
theorem dX7_init_11 : decode cX7_init 11 = .ok (.aload_n 0, 1) := by decide +kernel
theorem dX7_init_12 : decode cX7_init 12 = .ok (.iconst 4, 1) := by decide +kernel
theorem dX7_init_13 : decode cX7_init 13 = .ok (.newarray .int, 2) := by decide +kernel
theorem dX7_init_15 : decode cX7_init 15 = .ok (.putfield 15, 3) := by decide +kernel
theorem dX7_init_18 : decode cX7_init 18 = .ok (.aload_n 0, 1) := by decide +kernel
theorem dX7_init_19 : decode cX7_init 19 = .ok (.iconst 4, 1) := by decide +kernel
theorem dX7_init_20 : decode cX7_init 20 = .ok (.newarray .int, 2) := by decide +kernel
theorem dX7_init_22 : decode cX7_init 22 = .ok (.putfield 18, 3) := by decide +kernel
theorem dX7_init_25 : decode cX7_init 25 = .ok (.aload_n 0, 1) := by decide +kernel
theorem dX7_init_26 : decode cX7_init 26 = .ok (.bipush 7, 2) := by decide +kernel
theorem dX7_init_28 : decode cX7_init 28 = .ok (.newarray .int, 2) := by decide +kernel
theorem dX7_init_30 : decode cX7_init 30 = .ok (.putfield 21, 3) := by decide +kernel
theorem dX7_init_33 : decode cX7_init 33 = .ok (.return_, 1) := by decide +kernel
set_option maxRecDepth 20000 in
theorem ggX7_begin_J7_fill_53178 : GoodIn wsX7_begin wsJ7_fill_53178 := goodIn_r _ [11] (by decide +kernel) (by decide +kernel)
set_option maxRecDepth 20000 in
theorem gX7_begin_J7_fill_53178 : GoodIn wsX7_begin (va_wsS RX7 31 yJ7_fill_53178 wsJ7_fill_53178) := goodIn_app (goodIn_of _ (by decide +kernel)) ggX7_begin_J7_fill_53178
theorem dX7_begin_0 : decode cX7_begin 0 = .ok (.iconst 0, 1) := by decide +kernel
theorem dX7_begin_1 : decode cX7_begin 1 = .ok (.istore_n 2, 1) := by decide +kernel
theorem dX7_begin_2 : decode cX7_begin 2 = .ok (.iload_n 2, 1) := by decide +kernel
theorem dX7_begin_3 : decode cX7_begin 3 = .ok (.iconst 4, 1) := by decide +kernel
theorem dX7_begin_4 : decode cX7_begin 4 = .ok (.if_icmp .ge 47, 3) := by decide +kernel
theorem dX7_begin_7 : decode cX7_begin 7 = .ok (.aload_n 0, 1) := by decide +kernel
theorem dX7_begin_8 : decode cX7_begin 8 = .ok (.getfield 9, 3) := by decide +kernel
theorem dX7_begin_11 : decode cX7_begin 11 = .ok (.iload_n 2, 1) := by decide +kernel
theorem dX7_begin_12 : decode cX7_begin 12 = .ok (.iload_n 2, 1) := by decide +kernel
theorem dX7_begin_13 : decode cX7_begin 13 = .ok (.aload_n 1, 1) := by decide +kernel
theorem dX7_begin_14 : decode cX7_begin 14 = .ok (.getfield 24, 3) := by decide +kernel
theorem dX7_begin_17 : decode cX7_begin 17 = .ok (.if_icmp .ge 12, 3) := by decide +kernel
theorem dX7_begin_20 : decode cX7_begin 20 = .ok (.aload_n 1, 1) := by decide +kernel
theorem dX7_begin_21 : decode cX7_begin 21 = .ok (.getfield 28, 3) := by decide +kernel
theorem dX7_begin_24 : decode cX7_begin 24 = .ok (.iload_n 2, 1) := by decide +kernel
theorem dX7_begin_25 : decode cX7_begin 25 = .ok (.iaload, 1) := by decide +kernel
theorem dX7_begin_26 : decode cX7_begin 26 = .ok (.goto 4, 3) := by decide +kernel
theorem dX7_begin_29 : decode cX7_begin 29 = .ok (.iconst 0, 1) := by decide +kernel
theorem dX7_begin_30 : decode cX7_begin 30 = .ok (.iastore, 1) := by decide +kernel
theorem dX7_begin_31 : decode cX7_begin 31 = .ok (.aload_n 0, 1) := by decide +kernel
theorem dX7_begin_32 : decode cX7_begin 32 = .ok (.getfield 15, 3) := by decide +kernel
theorem dX7_begin_35 : decode cX7_begin 35 = .ok (.iload_n 2, 1) := by decide +kernel
theorem dX7_begin_36 : decode cX7_begin 36 = .ok (.iconst 0, 1) := by decide +kernel
theorem dX7_begin_37 : decode cX7_begin 37 = .ok (.iastore, 1) := by decide +kernel
theorem dX7_begin_38 : decode cX7_begin 38 = .ok (.aload_n 0, 1) := by decide +kernel
theorem dX7_begin_39 : decode cX7_begin 39 = .ok (.getfield 18, 3) := by decide +kernel
theorem dX7_begin_42 : decode cX7_begin 42 = .ok (.iload_n 2, 1) := by decide +kernel
theorem dX7_begin_43 : decode cX7_begin 43 = .ok (.iconst 0, 1) := by decide +kernel
theorem dX7_begin_44 : decode cX7_begin 44 = .ok (.iastore, 1) := by decide +kernel
theorem dX7_begin_45 : decode cX7_begin 45 = .ok (.iinc 2 1, 3) := by decide +kernel
theorem dX7_begin_48 : decode cX7_begin 48 = .ok (.goto (-46), 3) := by decide +kernel
theorem dX7_begin_51 : decode cX7_begin 51 = .ok (.aload_n 0, 1) := by decide +kernel
theorem dX7_begin_52 : decode cX7_begin 52 = .ok (.getfield 21, 3) := by decide +kernel
theorem dX7_begin_55 : decode cX7_begin 55 = .ok (.iconst 0, 1) := by decide +kernel
theorem dX7_begin_56 : decode cX7_begin 56 = .ok (.invokestatic 31, 3) := by decide +kernel
theorem dX7_begin_59 : decode cX7_begin 59 = .ok (.aload_n 0, 1) := by decide +kernel
theorem dX7_begin_60 : decode cX7_begin 60 = .ok (.iconst 0, 1) := by decide +kernel
theorem dX7_begin_61 : decode cX7_begin 61 = .ok (.putfield 37, 3) := by decide +kernel
theorem dX7_begin_64 : decode cX7_begin 64 = .ok (.return_, 1) := by decide +kernel
theorem dX7_copyOf_0 : decode cX7_copyOf 0 = .ok (.aload_n 1, 1) := by decide +kernel
theorem dX7_copyOf_1 : decode cX7_copyOf 1 = .ok (.getfield 9, 3) := by decide +kernel
theorem dX7_copyOf_4 : decode cX7_copyOf 4 = .ok (.iconst 0, 1) := by decide +kernel
theorem dX7_copyOf_5 : decode cX7_copyOf 5 = .ok (.aload_n 0, 1) := by decide +kernel
theorem dX7_copyOf_6 : decode cX7_copyOf 6 = .ok (.getfield 9, 3) := by decide +kernel
theorem dX7_copyOf_9 : decode cX7_copyOf 9 = .ok (.iconst 0, 1) := by decide +kernel
theorem dX7_copyOf_10 : decode cX7_copyOf 10 = .ok (.iconst 4, 1) := by decide +kernel
theorem dX7_copyOf_11 : decode cX7_copyOf 11 = .ok (.invokestatic 40, 3) := by decide +kernel
theorem dX7_copyOf_14 : decode cX7_copyOf 14 = .ok (.aload_n 1, 1) := by decide +kernel
theorem dX7_copyOf_15 : decode cX7_copyOf 15 = .ok (.getfield 15, 3) := by decide +kernel
theorem dX7_copyOf_18 : decode cX7_copyOf 18 = .ok (.iconst 0, 1) := by decide +kernel
theorem dX7_copyOf_19 : decode cX7_copyOf 19 = .ok (.aload_n 0, 1) := by decide +kernel
theorem dX7_copyOf_20 : decode cX7_copyOf 20 = .ok (.getfield 15, 3) := by decide +kernel
theorem dX7_copyOf_23 : decode cX7_copyOf 23 = .ok (.iconst 0, 1) := by decide +kernel
theorem dX7_copyOf_24 : decode cX7_copyOf 24 = .ok (.iconst 4, 1) := by decide +kernel
theorem dX7_copyOf_25 : decode cX7_copyOf 25 = .ok (.invokestatic 40, 3) := by decide +kernel
theorem dX7_copyOf_28 : decode cX7_copyOf 28 = .ok (.aload_n 1, 1) := by decide +kernel
theorem dX7_copyOf_29 : decode cX7_copyOf 29 = .ok (.getfield 18, 3) := by decide +kernel
theorem dX7_copyOf_32 : decode cX7_copyOf 32 = .ok (.iconst 0, 1) := by decide +kernel
theorem dX7_copyOf_33 : decode cX7_copyOf 33 = .ok (.aload_n 0, 1) := by decide +kernel
theorem dX7_copyOf_34 : decode cX7_copyOf 34 = .ok (.getfield 18, 3) := by decide +kernel
theorem dX7_copyOf_37 : decode cX7_copyOf 37 = .ok (.iconst 0, 1) := by decide +kernel
theorem dX7_copyOf_38 : decode cX7_copyOf 38 = .ok (.iconst 4, 1) := by decide +kernel
theorem dX7_copyOf_39 : decode cX7_copyOf 39 = .ok (.invokestatic 40, 3) := by decide +kernel
theorem dX7_copyOf_42 : decode cX7_copyOf 42 = .ok (.aload_n 1, 1) := by decide +kernel
theorem dX7_copyOf_43 : decode cX7_copyOf 43 = .ok (.getfield 21, 3) := by decide +kernel
theorem dX7_copyOf_46 : decode cX7_copyOf 46 = .ok (.iconst 0, 1) := by decide +kernel
theorem dX7_copyOf_47 : decode cX7_copyOf 47 = .ok (.aload_n 0, 1) := by decide +kernel
theorem dX7_copyOf_48 : decode cX7_copyOf 48 = .ok (.getfield 21, 3) := by decide +kernel
theorem dX7_copyOf_51 : decode cX7_copyOf 51 = .ok (.iconst 0, 1) := by decide +kernel
theorem dX7_copyOf_52 : decode cX7_copyOf 52 = .ok (.bipush 7, 2) := by decide +kernel
theorem dX7_copyOf_54 : decode cX7_copyOf 54 = .ok (.invokestatic 40, 3) := by decide +kernel
theorem dX7_copyOf_57 : decode cX7_copyOf 57 = .ok (.aload_n 0, 1) := by decide +kernel
theorem dX7_copyOf_58 : decode cX7_copyOf 58 = .ok (.aload_n 1, 1) := by decide +kernel
theorem dX7_copyOf_59 : decode cX7_copyOf 59 = .ok (.getfield 37, 3) := by decide +kernel
theorem dX7_copyOf_62 : decode cX7_copyOf 62 = .ok (.putfield 37, 3) := by decide +kernel
theorem dX7_copyOf_65 : decode cX7_copyOf 65 = .ok (.return_, 1) := by decide +kernel
theorem dX7_cartsIn_0 : decode cX7_cartsIn 0 = .ok (.iconst 0, 1) := by decide +kernel
theorem dX7_cartsIn_1 : decode cX7_cartsIn 1 = .ok (.istore_n 3, 1) := by decide +kernel
theorem dX7_cartsIn_2 : decode cX7_cartsIn 2 = .ok (.iconst 0, 1) := by decide +kernel
theorem dX7_cartsIn_3 : decode cX7_cartsIn 3 = .ok (.istore 4, 2) := by decide +kernel
theorem dX7_cartsIn_5 : decode cX7_cartsIn 5 = .ok (.iload 4, 2) := by decide +kernel
theorem dX7_cartsIn_7 : decode cX7_cartsIn 7 = .ok (.iload_n 2, 1) := by decide +kernel
theorem dX7_cartsIn_8 : decode cX7_cartsIn 8 = .ok (.if_icmp .ge 27, 3) := by decide +kernel
theorem dX7_cartsIn_11 : decode cX7_cartsIn 11 = .ok (.aload_n 0, 1) := by decide +kernel
theorem dX7_cartsIn_12 : decode cX7_cartsIn 12 = .ok (.getfield 9, 3) := by decide +kernel
theorem dX7_cartsIn_15 : decode cX7_cartsIn 15 = .ok (.iload 4, 2) := by decide +kernel
theorem dX7_cartsIn_17 : decode cX7_cartsIn 17 = .ok (.iaload, 1) := by decide +kernel
theorem dX7_cartsIn_18 : decode cX7_cartsIn 18 = .ok (.iload_n 1, 1) := by decide +kernel
theorem dX7_cartsIn_19 : decode cX7_cartsIn 19 = .ok (.if_icmp .ne 10, 3) := by decide +kernel
theorem dX7_cartsIn_22 : decode cX7_cartsIn 22 = .ok (.iload_n 3, 1) := by decide +kernel
theorem dX7_cartsIn_23 : decode cX7_cartsIn 23 = .ok (.iconst 1, 1) := by decide +kernel
theorem dX7_cartsIn_24 : decode cX7_cartsIn 24 = .ok (.iload 4, 2) := by decide +kernel
theorem dX7_cartsIn_26 : decode cX7_cartsIn 26 = .ok (.ishl, 1) := by decide +kernel
theorem dX7_cartsIn_27 : decode cX7_cartsIn 27 = .ok (.ior, 1) := by decide +kernel
theorem dX7_cartsIn_28 : decode cX7_cartsIn 28 = .ok (.istore_n 3, 1) := by decide +kernel
theorem dX7_cartsIn_29 : decode cX7_cartsIn 29 = .ok (.iinc 4 1, 3) := by decide +kernel
theorem dX7_cartsIn_32 : decode cX7_cartsIn 32 = .ok (.goto (-27), 3) := by decide +kernel
theorem dX7_cartsIn_35 : decode cX7_cartsIn 35 = .ok (.iload_n 3, 1) := by decide +kernel
theorem dX7_cartsIn_36 : decode cX7_cartsIn 36 = .ok (.ireturn, 1) := by decide +kernel
theorem dX7_allSnow_0 : decode cX7_allSnow 0 = .ok (.iconst 0, 1) := by decide +kernel
theorem dX7_allSnow_1 : decode cX7_allSnow 1 = .ok (.istore_n 1, 1) := by decide +kernel
theorem dX7_allSnow_2 : decode cX7_allSnow 2 = .ok (.aload_n 0, 1) := by decide +kernel
theorem dX7_allSnow_3 : decode cX7_allSnow 3 = .ok (.getfield 18, 3) := by decide +kernel
theorem dX7_allSnow_6 : decode cX7_allSnow 6 = .ok (.astore_n 2, 1) := by decide +kernel
theorem dX7_allSnow_7 : decode cX7_allSnow 7 = .ok (.aload_n 2, 1) := by decide +kernel
theorem dX7_allSnow_8 : decode cX7_allSnow 8 = .ok (.arraylength, 1) := by decide +kernel
theorem dX7_allSnow_9 : decode cX7_allSnow 9 = .ok (.istore_n 3, 1) := by decide +kernel
theorem dX7_allSnow_10 : decode cX7_allSnow 10 = .ok (.iconst 0, 1) := by decide +kernel
theorem dX7_allSnow_11 : decode cX7_allSnow 11 = .ok (.istore 4, 2) := by decide +kernel
theorem dX7_allSnow_13 : decode cX7_allSnow 13 = .ok (.iload 4, 2) := by decide +kernel
theorem dX7_allSnow_15 : decode cX7_allSnow 15 = .ok (.iload_n 3, 1) := by decide +kernel
theorem dX7_allSnow_16 : decode cX7_allSnow 16 = .ok (.if_icmp .ge 20, 3) := by decide +kernel
theorem dX7_allSnow_19 : decode cX7_allSnow 19 = .ok (.aload_n 2, 1) := by decide +kernel
theorem dX7_allSnow_20 : decode cX7_allSnow 20 = .ok (.iload 4, 2) := by decide +kernel
theorem dX7_allSnow_22 : decode cX7_allSnow 22 = .ok (.iaload, 1) := by decide +kernel
theorem dX7_allSnow_23 : decode cX7_allSnow 23 = .ok (.istore 5, 2) := by decide +kernel
theorem dX7_allSnow_25 : decode cX7_allSnow 25 = .ok (.iload_n 1, 1) := by decide +kernel
theorem dX7_allSnow_26 : decode cX7_allSnow 26 = .ok (.iload 5, 2) := by decide +kernel
theorem dX7_allSnow_28 : decode cX7_allSnow 28 = .ok (.iadd, 1) := by decide +kernel
theorem dX7_allSnow_29 : decode cX7_allSnow 29 = .ok (.istore_n 1, 1) := by decide +kernel
theorem dX7_allSnow_30 : decode cX7_allSnow 30 = .ok (.iinc 4 1, 3) := by decide +kernel
theorem dX7_allSnow_33 : decode cX7_allSnow 33 = .ok (.goto (-20), 3) := by decide +kernel
theorem dX7_allSnow_36 : decode cX7_allSnow 36 = .ok (.iload_n 1, 1) := by decide +kernel
theorem dX7_allSnow_37 : decode cX7_allSnow 37 = .ok (.ireturn, 1) := by decide +kernel
theorem dX7_allStock_0 : decode cX7_allStock 0 = .ok (.iconst 0, 1) := by decide +kernel
theorem dX7_allStock_1 : decode cX7_allStock 1 = .ok (.istore_n 1, 1) := by decide +kernel
theorem dX7_allStock_2 : decode cX7_allStock 2 = .ok (.aload_n 0, 1) := by decide +kernel
theorem dX7_allStock_3 : decode cX7_allStock 3 = .ok (.getfield 21, 3) := by decide +kernel
theorem dX7_allStock_6 : decode cX7_allStock 6 = .ok (.astore_n 2, 1) := by decide +kernel
theorem dX7_allStock_7 : decode cX7_allStock 7 = .ok (.aload_n 2, 1) := by decide +kernel
theorem dX7_allStock_8 : decode cX7_allStock 8 = .ok (.arraylength, 1) := by decide +kernel
theorem dX7_allStock_9 : decode cX7_allStock 9 = .ok (.istore_n 3, 1) := by decide +kernel
theorem dX7_allStock_10 : decode cX7_allStock 10 = .ok (.iconst 0, 1) := by decide +kernel
theorem dX7_allStock_11 : decode cX7_allStock 11 = .ok (.istore 4, 2) := by decide +kernel
theorem dX7_allStock_13 : decode cX7_allStock 13 = .ok (.iload 4, 2) := by decide +kernel
theorem dX7_allStock_15 : decode cX7_allStock 15 = .ok (.iload_n 3, 1) := by decide +kernel
theorem dX7_allStock_16 : decode cX7_allStock 16 = .ok (.if_icmp .ge 20, 3) := by decide +kernel
theorem dX7_allStock_19 : decode cX7_allStock 19 = .ok (.aload_n 2, 1) := by decide +kernel
theorem dX7_allStock_20 : decode cX7_allStock 20 = .ok (.iload 4, 2) := by decide +kernel
theorem dX7_allStock_22 : decode cX7_allStock 22 = .ok (.iaload, 1) := by decide +kernel
theorem dX7_allStock_23 : decode cX7_allStock 23 = .ok (.istore 5, 2) := by decide +kernel
theorem dX7_allStock_25 : decode cX7_allStock 25 = .ok (.iload_n 1, 1) := by decide +kernel
theorem dX7_allStock_26 : decode cX7_allStock 26 = .ok (.iload 5, 2) := by decide +kernel
theorem dX7_allStock_28 : decode cX7_allStock 28 = .ok (.iadd, 1) := by decide +kernel
theorem dX7_allStock_29 : decode cX7_allStock 29 = .ok (.istore_n 1, 1) := by decide +kernel
theorem dX7_allStock_30 : decode cX7_allStock 30 = .ok (.iinc 4 1, 3) := by decide +kernel
theorem dX7_allStock_33 : decode cX7_allStock 33 = .ok (.goto (-20), 3) := by decide +kernel
theorem dX7_allStock_36 : decode cX7_allStock 36 = .ok (.iload_n 1, 1) := by decide +kernel
theorem dX7_allStock_37 : decode cX7_allStock 37 = .ok (.ireturn, 1) := by decide +kernel
theorem dX8_init_0 : decode cX8_init 0 = .ok (.aload_n 0, 1) := by decide +kernel
theorem dX8_init_1 : decode cX8_init 1 = .ok (.invokespecial 3, 3) := by decide +kernel
theorem dX8_init_4 : decode cX8_init 4 = .ok (.aload_n 0, 1) := by decide +kernel
theorem dX8_init_5 : decode cX8_init 5 = .ok (.iconst 5, 1) := by decide +kernel
theorem dX8_init_6 : decode cX8_init 6 = .ok (.newarray .int, 2) := by decide +kernel
theorem dX8_init_8 : decode cX8_init 8 = .ok (.putfield 11, 3) := by decide +kernel
theorem dX8_init_11 : decode cX8_init 11 = .ok (.return_, 1) := by decide +kernel
theorem dX8_append_0 : decode cX8_append 0 = .ok (.aload_n 0, 1) := by decide +kernel
theorem dX8_append_1 : decode cX8_append 1 = .ok (.getfield 15, 3) := by decide +kernel
theorem dX8_append_4 : decode cX8_append 4 = .ok (.iconst 5, 1) := by decide +kernel
theorem dX8_append_5 : decode cX8_append 5 = .ok (.if_icmp .lt 5, 3) := by decide +kernel
theorem dX8_append_8 : decode cX8_append 8 = .ok (.iconst 0, 1) := by decide +kernel
theorem dX8_append_9 : decode cX8_append 9 = .ok (.ireturn, 1) := by decide +kernel
theorem dX8_append_10 : decode cX8_append 10 = .ok (.aload_n 0, 1) := by decide +kernel
theorem dX8_append_11 : decode cX8_append 11 = .ok (.getfield 11, 3) := by decide +kernel
theorem dX8_append_14 : decode cX8_append 14 = .ok (.aload_n 0, 1) := by decide +kernel
theorem dX8_append_15 : decode cX8_append 15 = .ok (.getfield 15, 3) := by decide +kernel
theorem dX8_append_18 : decode cX8_append 18 = .ok (.iload_n 1, 1) := by decide +kernel
theorem dX8_append_19 : decode cX8_append 19 = .ok (.iastore, 1) := by decide +kernel
theorem dX8_append_20 : decode cX8_append 20 = .ok (.aload_n 0, 1) := by decide +kernel
theorem dX8_append_21 : decode cX8_append 21 = .ok (.dup, 1) := by decide +kernel
theorem dX8_append_22 : decode cX8_append 22 = .ok (.getfield 15, 3) := by decide +kernel
theorem dX8_append_25 : decode cX8_append 25 = .ok (.iconst 1, 1) := by decide +kernel
