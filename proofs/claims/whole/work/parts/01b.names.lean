theorem dX0_remember_5 : decode cX0_remember 5 = .ok (.getfield 35, 3) := by decide +kernel
theorem dX0_remember_8 : decode cX0_remember 8 = .ok (.aaload, 1) := by decide +kernel
theorem dX0_remember_9 : decode cX0_remember 9 = .ok (.aload_n 0, 1) := by decide +kernel
theorem dX0_remember_10 : decode cX0_remember 10 = .ok (.getfield 10, 3) := by decide +kernel
theorem dX0_remember_13 : decode cX0_remember 13 = .ok (.invokevirtual 38, 3) := by decide +kernel
theorem dX0_remember_16 : decode cX0_remember 16 = .ok (.aload_n 0, 1) := by decide +kernel
theorem dX0_remember_17 : decode cX0_remember 17 = .ok (.aload_n 0, 1) := by decide +kernel
theorem dX0_remember_18 : decode cX0_remember 18 = .ok (.getfield 35, 3) := by decide +kernel
theorem dX0_remember_21 : decode cX0_remember 21 = .ok (.iconst 1, 1) := by decide +kernel
theorem dX0_remember_22 : decode cX0_remember 22 = .ok (.iadd, 1) := by decide +kernel
theorem dX0_remember_23 : decode cX0_remember 23 = .ok (.bipush 8, 2) := by decide +kernel
theorem dX0_remember_25 : decode cX0_remember 25 = .ok (.irem, 1) := by decide +kernel
theorem dX0_remember_26 : decode cX0_remember 26 = .ok (.putfield 35, 3) := by decide +kernel
theorem dX0_remember_29 : decode cX0_remember 29 = .ok (.aload_n 0, 1) := by decide +kernel
theorem dX0_remember_30 : decode cX0_remember 30 = .ok (.aload_n 0, 1) := by decide +kernel
theorem dX0_remember_31 : decode cX0_remember 31 = .ok (.getfield 31, 3) := by decide +kernel
theorem dX0_remember_34 : decode cX0_remember 34 = .ok (.iconst 1, 1) := by decide +kernel
theorem dX0_remember_35 : decode cX0_remember 35 = .ok (.iadd, 1) := by decide +kernel
theorem dX0_remember_36 : decode cX0_remember 36 = .ok (.bipush 8, 2) := by decide +kernel
theorem dX0_remember_38 : decode cX0_remember 38 = .ok (.invokestatic 42, 3) := by decide +kernel
theorem dX0_remember_41 : decode cX0_remember 41 = .ok (.putfield 31, 3) := by decide +kernel
theorem dX0_remember_44 : decode cX0_remember 44 = .ok (.return_, 1) := by decide +kernel
set_option maxRecDepth 20000 in
theorem ggX0_recall_X7_copyOf : GoodIn wsX0_recall wsX7_copyOf := goodIn_r _ [9, 10, 11, 12, 13, 14, 15, 16, 17, 18, 25, 26, 27, 28, 29] (by decide +kernel) (by decide +kernel)
set_option maxRecDepth 20000 in
theorem gX0_recall_X7_copyOf : GoodIn wsX0_recall (wsV RX0 38 RX7 yX7_copyOf wsX7_copyOf) := goodIn_app (goodIn_of _ (by decide +kernel)) ggX0_recall_X7_copyOf
theorem dX0_recall_0 : decode cX0_recall 0 = .ok (.aload_n 0, 1) := by decide +kernel
theorem dX0_recall_1 : decode cX0_recall 1 = .ok (.getfield 31, 3) := by decide +kernel
theorem dX0_recall_4 : decode cX0_recall 4 = .ok (.ifCond .ne 5, 3) := by decide +kernel
theorem dX0_recall_7 : decode cX0_recall 7 = .ok (.iconst 0, 1) := by decide +kernel
theorem dX0_recall_8 : decode cX0_recall 8 = .ok (.ireturn, 1) := by decide +kernel
theorem dX0_recall_9 : decode cX0_recall 9 = .ok (.aload_n 0, 1) := by decide +kernel
theorem dX0_recall_10 : decode cX0_recall 10 = .ok (.aload_n 0, 1) := by decide +kernel
theorem dX0_recall_11 : decode cX0_recall 11 = .ok (.getfield 35, 3) := by decide +kernel
theorem dX0_recall_14 : decode cX0_recall 14 = .ok (.bipush 8, 2) := by decide +kernel
theorem dX0_recall_16 : decode cX0_recall 16 = .ok (.iadd, 1) := by decide +kernel
theorem dX0_recall_17 : decode cX0_recall 17 = .ok (.iconst 1, 1) := by decide +kernel
theorem dX0_recall_18 : decode cX0_recall 18 = .ok (.isub, 1) := by decide +kernel
theorem dX0_recall_19 : decode cX0_recall 19 = .ok (.bipush 8, 2) := by decide +kernel
theorem dX0_recall_21 : decode cX0_recall 21 = .ok (.irem, 1) := by decide +kernel
theorem dX0_recall_22 : decode cX0_recall 22 = .ok (.putfield 35, 3) := by decide +kernel
theorem dX0_recall_25 : decode cX0_recall 25 = .ok (.aload_n 0, 1) := by decide +kernel
theorem dX0_recall_26 : decode cX0_recall 26 = .ok (.getfield 10, 3) := by decide +kernel
theorem dX0_recall_29 : decode cX0_recall 29 = .ok (.aload_n 0, 1) := by decide +kernel
theorem dX0_recall_30 : decode cX0_recall 30 = .ok (.getfield 16, 3) := by decide +kernel
theorem dX0_recall_33 : decode cX0_recall 33 = .ok (.aload_n 0, 1) := by decide +kernel
theorem dX0_recall_34 : decode cX0_recall 34 = .ok (.getfield 35, 3) := by decide +kernel
theorem dX0_recall_37 : decode cX0_recall 37 = .ok (.aaload, 1) := by decide +kernel
theorem dX0_recall_38 : decode cX0_recall 38 = .ok (.invokevirtual 38, 3) := by decide +kernel
theorem dX0_recall_41 : decode cX0_recall 41 = .ok (.aload_n 0, 1) := by decide +kernel
theorem dX0_recall_42 : decode cX0_recall 42 = .ok (.dup, 1) := by decide +kernel
theorem dX0_recall_43 : decode cX0_recall 43 = .ok (.getfield 31, 3) := by decide +kernel
theorem dX0_recall_46 : decode cX0_recall 46 = .ok (.iconst 1, 1) := by decide +kernel
theorem dX0_recall_47 : decode cX0_recall 47 = .ok (.isub, 1) := by decide +kernel
theorem dX0_recall_48 : decode cX0_recall 48 = .ok (.putfield 31, 3) := by decide +kernel
theorem dX0_recall_51 : decode cX0_recall 51 = .ok (.iconst 1, 1) := by decide +kernel
theorem dX0_recall_52 : decode cX0_recall 52 = .ok (.ireturn, 1) := by decide +kernel
set_option maxRecDepth 20000 in
theorem ggX0_preserve_X7_copyOf : GoodIn wsX0_preserve wsX7_copyOf := goodIn_r _ [8, 9, 10, 11, 12, 13, 14, 15, 16, 17, 24, 25, 26, 27, 28] (by decide +kernel) (by decide +kernel)
set_option maxRecDepth 20000 in
theorem gX0_preserve_X7_copyOf : GoodIn wsX0_preserve (wsV RX0 38 RX7 yX7_copyOf wsX7_copyOf) := goodIn_app (goodIn_of _ (by decide +kernel)) ggX0_preserve_X7_copyOf
theorem dX0_preserve_0 : decode cX0_preserve 0 = .ok (.aload_n 0, 1) := by decide +kernel
theorem dX0_preserve_1 : decode cX0_preserve 1 = .ok (.getfield 20, 3) := by decide +kernel
theorem dX0_preserve_4 : decode cX0_preserve 4 = .ok (.iload_n 1, 1) := by decide +kernel
theorem dX0_preserve_5 : decode cX0_preserve 5 = .ok (.aaload, 1) := by decide +kernel
theorem dX0_preserve_6 : decode cX0_preserve 6 = .ok (.aload_n 0, 1) := by decide +kernel
theorem dX0_preserve_7 : decode cX0_preserve 7 = .ok (.getfield 10, 3) := by decide +kernel
theorem dX0_preserve_10 : decode cX0_preserve 10 = .ok (.invokevirtual 38, 3) := by decide +kernel
theorem dX0_preserve_13 : decode cX0_preserve 13 = .ok (.aload_n 0, 1) := by decide +kernel
theorem dX0_preserve_14 : decode cX0_preserve 14 = .ok (.getfield 23, 3) := by decide +kernel
theorem dX0_preserve_17 : decode cX0_preserve 17 = .ok (.iload_n 1, 1) := by decide +kernel
theorem dX0_preserve_18 : decode cX0_preserve 18 = .ok (.iconst 1, 1) := by decide +kernel
theorem dX0_preserve_19 : decode cX0_preserve 19 = .ok (.bastore, 1) := by decide +kernel
theorem dX0_preserve_20 : decode cX0_preserve 20 = .ok (.return_, 1) := by decide +kernel
set_option maxRecDepth 20000 in
theorem ggX0_restore_X7_copyOf : GoodIn wsX0_restore wsX7_copyOf := goodIn_r _ [9, 10, 11, 12, 13, 14, 15, 16, 17, 18, 25, 26, 27, 28, 29] (by decide +kernel) (by decide +kernel)
set_option maxRecDepth 20000 in
theorem gX0_restore_X7_copyOf : GoodIn wsX0_restore (wsV RX0 38 RX7 yX7_copyOf wsX7_copyOf) := goodIn_app (goodIn_of _ (by decide +kernel)) ggX0_restore_X7_copyOf
theorem dX0_restore_0 : decode cX0_restore 0 = .ok (.aload_n 0, 1) := by decide +kernel
theorem dX0_restore_1 : decode cX0_restore 1 = .ok (.getfield 23, 3) := by decide +kernel
theorem dX0_restore_4 : decode cX0_restore 4 = .ok (.iload_n 1, 1) := by decide +kernel
theorem dX0_restore_5 : decode cX0_restore 5 = .ok (.baload, 1) := by decide +kernel
theorem dX0_restore_6 : decode cX0_restore 6 = .ok (.ifCond .ne 5, 3) := by decide +kernel
theorem dX0_restore_9 : decode cX0_restore 9 = .ok (.iconst 0, 1) := by decide +kernel
theorem dX0_restore_10 : decode cX0_restore 10 = .ok (.ireturn, 1) := by decide +kernel
theorem dX0_restore_11 : decode cX0_restore 11 = .ok (.aload_n 0, 1) := by decide +kernel
theorem dX0_restore_12 : decode cX0_restore 12 = .ok (.getfield 10, 3) := by decide +kernel
theorem dX0_restore_15 : decode cX0_restore 15 = .ok (.aload_n 0, 1) := by decide +kernel
theorem dX0_restore_16 : decode cX0_restore 16 = .ok (.getfield 20, 3) := by decide +kernel
theorem dX0_restore_19 : decode cX0_restore 19 = .ok (.iload_n 1, 1) := by decide +kernel
theorem dX0_restore_20 : decode cX0_restore 20 = .ok (.aaload, 1) := by decide +kernel
theorem dX0_restore_21 : decode cX0_restore 21 = .ok (.invokevirtual 38, 3) := by decide +kernel
theorem dX0_restore_24 : decode cX0_restore 24 = .ok (.aload_n 0, 1) := by decide +kernel
theorem dX0_restore_25 : decode cX0_restore 25 = .ok (.iconst 0, 1) := by decide +kernel
theorem dX0_restore_26 : decode cX0_restore 26 = .ok (.putfield 31, 3) := by decide +kernel
theorem dX0_restore_29 : decode cX0_restore 29 = .ok (.iconst 1, 1) := by decide +kernel
theorem dX0_restore_30 : decode cX0_restore 30 = .ok (.ireturn, 1) := by decide +kernel
theorem dX1_init_0 : decode cX1_init 0 = .ok (.aload_n 0, 1) := by decide +kernel
theorem dX1_init_1 : decode cX1_init 1 = .ok (.invokespecial 1, 3) := by decide +kernel
theorem dX1_init_4 : decode cX1_init 4 = .ok (.aload_n 0, 1) := by decide +kernel
theorem dX1_init_5 : decode cX1_init 5 = .ok (.bipush 7, 2) := by decide +kernel
theorem dX1_init_7 : decode cX1_init 7 = .ok (.newarray .int, 2) := by decide +kernel
theorem dX1_init_9 : decode cX1_init 9 = .ok (.putfield 9, 3) := by decide +kernel
theorem dX1_init_12 : decode cX1_init 12 = .ok (.aload_n 0, 1) := by decide +kernel
theorem dX1_init_13 : decode cX1_init 13 = .ok (.bipush 9, 2) := by decide +kernel
theorem dX1_init_15 : decode cX1_init 15 = .ok (.newarray .int, 2) := by decide +kernel
theorem dX1_init_17 : decode cX1_init 17 = .ok (.putfield 13, 3) := by decide +kernel
theorem dX1_init_20 : decode cX1_init 20 = .ok (.aload_n 0, 1) := by decide +kernel
theorem dX1_init_21 : decode cX1_init 21 = .ok (.bipush 9, 2) := by decide +kernel
theorem dX1_init_23 : decode cX1_init 23 = .ok (.newarray .int, 2) := by decide +kernel
theorem dX1_init_25 : decode cX1_init 25 = .ok (.putfield 16, 3) := by decide +kernel
theorem dX1_init_28 : decode cX1_init 28 = .ok (.aload_n 0, 1) := by decide +kernel
theorem dX1_init_29 : decode cX1_init 29 = .ok (.bipush 9, 2) := by decide +kernel
theorem dX1_init_31 : decode cX1_init 31 = .ok (.newarray .int, 2) := by decide +kernel
theorem dX1_init_33 : decode cX1_init 33 = .ok (.putfield 19, 3) := by decide +kernel
theorem dX1_init_36 : decode cX1_init 36 = .ok (.aload_n 0, 1) := by decide +kernel
theorem dX1_init_37 : decode cX1_init 37 = .ok (.bipush 9, 2) := by decide +kernel
theorem dX1_init_39 : decode cX1_init 39 = .ok (.newarray .int, 2) := by decide +kernel
theorem dX1_init_41 : decode cX1_init 41 = .ok (.putfield 22, 3) := by decide +kernel
theorem dX1_init_44 : decode cX1_init 44 = .ok (.aload_n 0, 1) := by decide +kernel
theorem dX1_init_45 : decode cX1_init 45 = .ok (.iconst 4, 1) := by decide +kernel
theorem dX1_init_46 : decode cX1_init 46 = .ok (.newarray .int, 2) := by decide +kernel
theorem dX1_init_48 : decode cX1_init 48 = .ok (.putfield 25, 3) := by decide +kernel
theorem dX1_init_51 : decode cX1_init 51 = .ok (.aload_n 0, 1) := by decide +kernel
theorem dX1_init_52 : decode cX1_init 52 = .ok (.iconst 4, 1) := by decide +kernel
theorem dX1_init_53 : decode cX1_init 53 = .ok (.newarray .int, 2) := by decide +kernel
theorem dX1_init_55 : decode cX1_init 55 = .ok (.putfield 28, 3) := by decide +kernel
theorem dX1_init_58 : decode cX1_init 58 = .ok (.aload_n 0, 1) := by decide +kernel
theorem dX1_init_59 : decode cX1_init 59 = .ok (.iconst 4, 1) := by decide +kernel
theorem dX1_init_60 : decode cX1_init 60 = .ok (.newarray .int, 2) := by decide +kernel
theorem dX1_init_62 : decode cX1_init 62 = .ok (.putfield 31, 3) := by decide +kernel
theorem dX1_init_65 : decode cX1_init 65 = .ok (.return_, 1) := by decide +kernel
theorem dX1_clear_0 : decode cX1_clear 0 = .ok (.aload_n 0, 1) := by decide +kernel
theorem dX1_clear_1 : decode cX1_clear 1 = .ok (.iconst 0, 1) := by decide +kernel
theorem dX1_clear_2 : decode cX1_clear 2 = .ok (.putfield 34, 3) := by decide +kernel
theorem dX1_clear_5 : decode cX1_clear 5 = .ok (.aload_n 0, 1) := by decide +kernel
theorem dX1_clear_6 : decode cX1_clear 6 = .ok (.iconst 0, 1) := by decide +kernel
theorem dX1_clear_7 : decode cX1_clear 7 = .ok (.putfield 38, 3) := by decide +kernel
theorem dX1_clear_10 : decode cX1_clear 10 = .ok (.aload_n 0, 1) := by decide +kernel
theorem dX1_clear_11 : decode cX1_clear 11 = .ok (.iconst 0, 1) := by decide +kernel
theorem dX1_clear_12 : decode cX1_clear 12 = .ok (.putfield 41, 3) := by decide +kernel
theorem dX1_clear_15 : decode cX1_clear 15 = .ok (.aload_n 0, 1) := by decide +kernel
theorem dX1_clear_16 : decode cX1_clear 16 = .ok (.lconst 0, 1) := by decide +kernel
theorem dX1_clear_17 : decode cX1_clear 17 = .ok (.putfield 44, 3) := by decide +kernel
theorem dX1_clear_20 : decode cX1_clear 20 = .ok (.return_, 1) := by decide +kernel
theorem dX1_addPlace_0 : decode cX1_addPlace 0 = .ok (.aload_n 0, 1) := by decide +kernel
theorem dX1_addPlace_1 : decode cX1_addPlace 1 = .ok (.getfield 34, 3) := by decide +kernel
theorem dX1_addPlace_4 : decode cX1_addPlace 4 = .ok (.bipush 7, 2) := by decide +kernel
theorem dX1_addPlace_6 : decode cX1_addPlace 6 = .ok (.if_icmp .ge 23, 3) := by decide +kernel
theorem dX1_addPlace_9 : decode cX1_addPlace 9 = .ok (.aload_n 0, 1) := by decide +kernel
theorem dX1_addPlace_10 : decode cX1_addPlace 10 = .ok (.getfield 9, 3) := by decide +kernel
theorem dX1_addPlace_13 : decode cX1_addPlace 13 = .ok (.aload_n 0, 1) := by decide +kernel
theorem dX1_addPlace_14 : decode cX1_addPlace 14 = .ok (.getfield 34, 3) := by decide +kernel
theorem dX1_addPlace_17 : decode cX1_addPlace 17 = .ok (.iload_n 1, 1) := by decide +kernel
theorem dX1_addPlace_18 : decode cX1_addPlace 18 = .ok (.iastore, 1) := by decide +kernel
theorem dX1_addPlace_19 : decode cX1_addPlace 19 = .ok (.aload_n 0, 1) := by decide +kernel
theorem dX1_addPlace_20 : decode cX1_addPlace 20 = .ok (.dup, 1) := by decide +kernel
theorem dX1_addPlace_21 : decode cX1_addPlace 21 = .ok (.getfield 34, 3) := by decide +kernel
theorem dX1_addPlace_24 : decode cX1_addPlace 24 = .ok (.iconst 1, 1) := by decide +kernel
theorem dX1_addPlace_25 : decode cX1_addPlace 25 = .ok (.iadd, 1) := by decide +kernel
theorem dX1_addPlace_26 : decode cX1_addPlace 26 = .ok (.putfield 34, 3) := by decide +kernel
theorem dX1_addPlace_29 : decode cX1_addPlace 29 = .ok (.return_, 1) := by decide +kernel
theorem dX1_addRoad_0 : decode cX1_addRoad 0 = .ok (.aload_n 0, 1) := by decide +kernel
theorem dX1_addRoad_1 : decode cX1_addRoad 1 = .ok (.getfield 38, 3) := by decide +kernel
theorem dX1_addRoad_4 : decode cX1_addRoad 4 = .ok (.bipush 9, 2) := by decide +kernel
theorem dX1_addRoad_6 : decode cX1_addRoad 6 = .ok (.if_icmp .ge 54, 3) := by decide +kernel
theorem dX1_addRoad_9 : decode cX1_addRoad 9 = .ok (.aload_n 0, 1) := by decide +kernel
theorem dX1_addRoad_10 : decode cX1_addRoad 10 = .ok (.getfield 13, 3) := by decide +kernel
theorem dX1_addRoad_13 : decode cX1_addRoad 13 = .ok (.aload_n 0, 1) := by decide +kernel
theorem dX1_addRoad_14 : decode cX1_addRoad 14 = .ok (.getfield 38, 3) := by decide +kernel
theorem dX1_addRoad_17 : decode cX1_addRoad 17 = .ok (.iload_n 1, 1) := by decide +kernel
theorem dX1_addRoad_18 : decode cX1_addRoad 18 = .ok (.iastore, 1) := by decide +kernel
theorem dX1_addRoad_19 : decode cX1_addRoad 19 = .ok (.aload_n 0, 1) := by decide +kernel
theorem dX1_addRoad_20 : decode cX1_addRoad 20 = .ok (.getfield 16, 3) := by decide +kernel
theorem dX1_addRoad_23 : decode cX1_addRoad 23 = .ok (.aload_n 0, 1) := by decide +kernel
theorem dX1_addRoad_24 : decode cX1_addRoad 24 = .ok (.getfield 38, 3) := by decide +kernel
theorem dX1_addRoad_27 : decode cX1_addRoad 27 = .ok (.iload_n 2, 1) := by decide +kernel
theorem dX1_addRoad_28 : decode cX1_addRoad 28 = .ok (.iastore, 1) := by decide +kernel
theorem dX1_addRoad_29 : decode cX1_addRoad 29 = .ok (.aload_n 0, 1) := by decide +kernel
theorem dX1_addRoad_30 : decode cX1_addRoad 30 = .ok (.getfield 19, 3) := by decide +kernel
theorem dX1_addRoad_33 : decode cX1_addRoad 33 = .ok (.aload_n 0, 1) := by decide +kernel
theorem dX1_addRoad_34 : decode cX1_addRoad 34 = .ok (.getfield 38, 3) := by decide +kernel
theorem dX1_addRoad_37 : decode cX1_addRoad 37 = .ok (.iload_n 3, 1) := by decide +kernel
theorem dX1_addRoad_38 : decode cX1_addRoad 38 = .ok (.iastore, 1) := by decide +kernel
theorem dX1_addRoad_39 : decode cX1_addRoad 39 = .ok (.aload_n 0, 1) := by decide +kernel
theorem dX1_addRoad_40 : decode cX1_addRoad 40 = .ok (.getfield 22, 3) := by decide +kernel
theorem dX1_addRoad_43 : decode cX1_addRoad 43 = .ok (.aload_n 0, 1) := by decide +kernel
theorem dX1_addRoad_44 : decode cX1_addRoad 44 = .ok (.getfield 38, 3) := by decide +kernel
theorem dX1_addRoad_47 : decode cX1_addRoad 47 = .ok (.iload 4, 2) := by decide +kernel
theorem dX1_addRoad_49 : decode cX1_addRoad 49 = .ok (.iastore, 1) := by decide +kernel
theorem dX1_addRoad_50 : decode cX1_addRoad 50 = .ok (.aload_n 0, 1) := by decide +kernel
theorem dX1_addRoad_51 : decode cX1_addRoad 51 = .ok (.dup, 1) := by decide +kernel
theorem dX1_addRoad_52 : decode cX1_addRoad 52 = .ok (.getfield 38, 3) := by decide +kernel
theorem dX1_addRoad_55 : decode cX1_addRoad 55 = .ok (.iconst 1, 1) := by decide +kernel
theorem dX1_addRoad_56 : decode cX1_addRoad 56 = .ok (.iadd, 1) := by decide +kernel
theorem dX1_addRoad_57 : decode cX1_addRoad 57 = .ok (.putfield 38, 3) := by decide +kernel
theorem dX1_addRoad_60 : decode cX1_addRoad 60 = .ok (.return_, 1) := by decide +kernel
theorem dX1_addCart_0 : decode cX1_addCart 0 = .ok (.aload_n 0, 1) := by decide +kernel
theorem dX1_addCart_1 : decode cX1_addCart 1 = .ok (.getfield 41, 3) := by decide +kernel
theorem dX1_addCart_4 : decode cX1_addCart 4 = .ok (.iconst 4, 1) := by decide +kernel
theorem dX1_addCart_5 : decode cX1_addCart 5 = .ok (.if_icmp .ge 43, 3) := by decide +kernel
theorem dX1_addCart_8 : decode cX1_addCart 8 = .ok (.aload_n 0, 1) := by decide +kernel
theorem dX1_addCart_9 : decode cX1_addCart 9 = .ok (.getfield 25, 3) := by decide +kernel
theorem dX1_addCart_12 : decode cX1_addCart 12 = .ok (.aload_n 0, 1) := by decide +kernel
theorem dX1_addCart_13 : decode cX1_addCart 13 = .ok (.getfield 41, 3) := by decide +kernel
theorem dX1_addCart_16 : decode cX1_addCart 16 = .ok (.iload_n 1, 1) := by decide +kernel
theorem dX1_addCart_17 : decode cX1_addCart 17 = .ok (.iastore, 1) := by decide +kernel
theorem dX1_addCart_18 : decode cX1_addCart 18 = .ok (.aload_n 0, 1) := by decide +kernel
theorem dX1_addCart_19 : decode cX1_addCart 19 = .ok (.getfield 28, 3) := by decide +kernel
theorem dX1_addCart_22 : decode cX1_addCart 22 = .ok (.aload_n 0, 1) := by decide +kernel
theorem dX1_addCart_23 : decode cX1_addCart 23 = .ok (.getfield 41, 3) := by decide +kernel
theorem dX1_addCart_26 : decode cX1_addCart 26 = .ok (.iload_n 2, 1) := by decide +kernel
theorem dX1_addCart_27 : decode cX1_addCart 27 = .ok (.iastore, 1) := by decide +kernel
theorem dX1_addCart_28 : decode cX1_addCart 28 = .ok (.aload_n 0, 1) := by decide +kernel
theorem dX1_addCart_29 : decode cX1_addCart 29 = .ok (.getfield 31, 3) := by decide +kernel
theorem dX1_addCart_32 : decode cX1_addCart 32 = .ok (.aload_n 0, 1) := by decide +kernel
theorem dX1_addCart_33 : decode cX1_addCart 33 = .ok (.getfield 41, 3) := by decide +kernel
theorem dX1_addCart_36 : decode cX1_addCart 36 = .ok (.iload_n 3, 1) := by decide +kernel
theorem dX1_addCart_37 : decode cX1_addCart 37 = .ok (.iastore, 1) := by decide +kernel
theorem dX1_addCart_38 : decode cX1_addCart 38 = .ok (.aload_n 0, 1) := by decide +kernel
theorem dX1_addCart_39 : decode cX1_addCart 39 = .ok (.dup, 1) := by decide +kernel
theorem dX1_addCart_40 : decode cX1_addCart 40 = .ok (.getfield 41, 3) := by decide +kernel
theorem dX1_addCart_43 : decode cX1_addCart 43 = .ok (.iconst 1, 1) := by decide +kernel
theorem dX1_addCart_44 : decode cX1_addCart 44 = .ok (.iadd, 1) := by decide +kernel
theorem dX1_addCart_45 : decode cX1_addCart 45 = .ok (.putfield 41, 3) := by decide +kernel
theorem dX1_addCart_48 : decode cX1_addCart 48 = .ok (.return_, 1) := by decide +kernel
theorem dX1_hasPlace_0 : decode cX1_hasPlace 0 = .ok (.iload_n 1, 1) := by decide +kernel
theorem dX1_hasPlace_1 : decode cX1_hasPlace 1 = .ok (.ifCond .lt 15, 3) := by decide +kernel
theorem dX1_hasPlace_4 : decode cX1_hasPlace 4 = .ok (.iload_n 1, 1) := by decide +kernel
theorem dX1_hasPlace_5 : decode cX1_hasPlace 5 = .ok (.aload_n 0, 1) := by decide +kernel
theorem dX1_hasPlace_6 : decode cX1_hasPlace 6 = .ok (.getfield 34, 3) := by decide +kernel
theorem dX1_hasPlace_9 : decode cX1_hasPlace 9 = .ok (.if_icmp .ge 7, 3) := by decide +kernel
theorem dX1_hasPlace_12 : decode cX1_hasPlace 12 = .ok (.iconst 1, 1) := by decide +kernel
theorem dX1_hasPlace_13 : decode cX1_hasPlace 13 = .ok (.goto 4, 3) := by decide +kernel
theorem dX1_hasPlace_16 : decode cX1_hasPlace 16 = .ok (.iconst 0, 1) := by decide +kernel
theorem dX1_hasPlace_17 : decode cX1_hasPlace 17 = .ok (.ireturn, 1) := by decide +kernel
theorem dX1_hasRoad_0 : decode cX1_hasRoad 0 = .ok (.iload_n 1, 1) := by decide +kernel
theorem dX1_hasRoad_1 : decode cX1_hasRoad 1 = .ok (.ifCond .lt 15, 3) := by decide +kernel
theorem dX1_hasRoad_4 : decode cX1_hasRoad 4 = .ok (.iload_n 1, 1) := by decide +kernel
theorem dX1_hasRoad_5 : decode cX1_hasRoad 5 = .ok (.aload_n 0, 1) := by decide +kernel
theorem dX1_hasRoad_6 : decode cX1_hasRoad 6 = .ok (.getfield 38, 3) := by decide +kernel
theorem dX1_hasRoad_9 : decode cX1_hasRoad 9 = .ok (.if_icmp .ge 7, 3) := by decide +kernel
theorem dX1_hasRoad_12 : decode cX1_hasRoad 12 = .ok (.iconst 1, 1) := by decide +kernel
theorem dX1_hasRoad_13 : decode cX1_hasRoad 13 = .ok (.goto 4, 3) := by decide +kernel
theorem dX1_hasRoad_16 : decode cX1_hasRoad 16 = .ok (.iconst 0, 1) := by decide +kernel
theorem dX1_hasRoad_17 : decode cX1_hasRoad 17 = .ok (.ireturn, 1) := by decide +kernel
theorem dX1_hasCart_0 : decode cX1_hasCart 0 = .ok (.iload_n 1, 1) := by decide +kernel
theorem dX1_hasCart_1 : decode cX1_hasCart 1 = .ok (.ifCond .lt 15, 3) := by decide +kernel
theorem dX1_hasCart_4 : decode cX1_hasCart 4 = .ok (.iload_n 1, 1) := by decide +kernel
theorem dX1_hasCart_5 : decode cX1_hasCart 5 = .ok (.aload_n 0, 1) := by decide +kernel
theorem dX1_hasCart_6 : decode cX1_hasCart 6 = .ok (.getfield 41, 3) := by decide +kernel
theorem dX1_hasCart_9 : decode cX1_hasCart 9 = .ok (.if_icmp .ge 7, 3) := by decide +kernel
theorem dX1_hasCart_12 : decode cX1_hasCart 12 = .ok (.iconst 1, 1) := by decide +kernel
theorem dX1_hasCart_13 : decode cX1_hasCart 13 = .ok (.goto 4, 3) := by decide +kernel
theorem dX1_hasCart_16 : decode cX1_hasCart 16 = .ok (.iconst 0, 1) := by decide +kernel
theorem dX1_hasCart_17 : decode cX1_hasCart 17 = .ok (.ireturn, 1) := by decide +kernel
theorem dX1_cartIs_0 : decode cX1_cartIs 0 = .ok (.iload_n 2, 1) := by decide +kernel
theorem dX1_cartIs_1 : decode cX1_cartIs 1 = .ok (.aload_n 0, 1) := by decide +kernel
theorem dX1_cartIs_2 : decode cX1_cartIs 2 = .ok (.getfield 25, 3) := by decide +kernel
theorem dX1_cartIs_5 : decode cX1_cartIs 5 = .ok (.iload_n 1, 1) := by decide +kernel
theorem dX1_cartIs_6 : decode cX1_cartIs 6 = .ok (.iaload, 1) := by decide +kernel
theorem dX1_cartIs_7 : decode cX1_cartIs 7 = .ok (.iconst 1, 1) := by decide +kernel
theorem dX1_cartIs_8 : decode cX1_cartIs 8 = .ok (.iadd, 1) := by decide +kernel
theorem dX1_cartIs_9 : decode cX1_cartIs 9 = .ok (.if_icmp .gt 7, 3) := by decide +kernel
theorem dX1_cartIs_12 : decode cX1_cartIs 12 = .ok (.iconst 1, 1) := by decide +kernel
theorem dX1_cartIs_13 : decode cX1_cartIs 13 = .ok (.goto 4, 3) := by decide +kernel
theorem dX1_cartIs_16 : decode cX1_cartIs 16 = .ok (.iconst 0, 1) := by decide +kernel
theorem dX1_cartIs_17 : decode cX1_cartIs 17 = .ok (.ireturn, 1) := by decide +kernel
theorem dX1_roadIs_0 : decode cX1_roadIs 0 = .ok (.aload_n 0, 1) := by decide +kernel
theorem dX1_roadIs_1 : decode cX1_roadIs 1 = .ok (.getfield 13, 3) := by decide +kernel
theorem dX1_roadIs_4 : decode cX1_roadIs 4 = .ok (.iload_n 1, 1) := by decide +kernel
theorem dX1_roadIs_5 : decode cX1_roadIs 5 = .ok (.iaload, 1) := by decide +kernel
theorem dX1_roadIs_6 : decode cX1_roadIs 6 = .ok (.istore_n 3, 1) := by decide +kernel
theorem dX1_roadIs_7 : decode cX1_roadIs 7 = .ok (.iload_n 2, 1) := by decide +kernel
theorem dX1_roadIs_8 : decode cX1_roadIs 8 = .ok (.ifCond .eq 20, 3) := by decide +kernel
theorem dX1_roadIs_11 : decode cX1_roadIs 11 = .ok (.iload_n 2, 1) := by decide +kernel
theorem dX1_roadIs_12 : decode cX1_roadIs 12 = .ok (.iload_n 3, 1) := by decide +kernel
theorem dX1_roadIs_13 : decode cX1_roadIs 13 = .ok (.iconst 1, 1) := by decide +kernel
theorem dX1_roadIs_14 : decode cX1_roadIs 14 = .ok (.iadd, 1) := by decide +kernel
theorem dX1_roadIs_15 : decode cX1_roadIs 15 = .ok (.if_icmp .eq 13, 3) := by decide +kernel
theorem dX1_roadIs_18 : decode cX1_roadIs 18 = .ok (.iload_n 2, 1) := by decide +kernel
theorem dX1_roadIs_19 : decode cX1_roadIs 19 = .ok (.iconst 1, 1) := by decide +kernel
theorem dX1_roadIs_20 : decode cX1_roadIs 20 = .ok (.if_icmp .ne 12, 3) := by decide +kernel
theorem dX1_roadIs_23 : decode cX1_roadIs 23 = .ok (.iload_n 3, 1) := by decide +kernel
theorem dX1_roadIs_24 : decode cX1_roadIs 24 = .ok (.iconst 2, 1) := by decide +kernel
theorem dX1_roadIs_25 : decode cX1_roadIs 25 = .ok (.if_icmp .ne 7, 3) := by decide +kernel
theorem dX1_roadIs_28 : decode cX1_roadIs 28 = .ok (.iconst 1, 1) := by decide +kernel
theorem dX1_roadIs_29 : decode cX1_roadIs 29 = .ok (.goto 4, 3) := by decide +kernel
theorem dX1_roadIs_32 : decode cX1_roadIs 32 = .ok (.iconst 0, 1) := by decide +kernel
theorem dX1_roadIs_33 : decode cX1_roadIs 33 = .ok (.ireturn, 1) := by decide +kernel
theorem dX1_touches_0 : decode cX1_touches 0 = .ok (.aload_n 0, 1) := by decide +kernel
theorem dX1_touches_1 : decode cX1_touches 1 = .ok (.getfield 16, 3) := by decide +kernel
theorem dX1_touches_4 : decode cX1_touches 4 = .ok (.iload_n 1, 1) := by decide +kernel
theorem dX1_touches_5 : decode cX1_touches 5 = .ok (.iaload, 1) := by decide +kernel
theorem dX1_touches_6 : decode cX1_touches 6 = .ok (.iload_n 2, 1) := by decide +kernel
theorem dX1_touches_7 : decode cX1_touches 7 = .ok (.if_icmp .eq 13, 3) := by decide +kernel
theorem dX1_touches_10 : decode cX1_touches 10 = .ok (.aload_n 0, 1) := by decide +kernel
theorem dX1_touches_11 : decode cX1_touches 11 = .ok (.getfield 19, 3) := by decide +kernel
theorem dX1_touches_14 : decode cX1_touches 14 = .ok (.iload_n 1, 1) := by decide +kernel
theorem dX1_touches_15 : decode cX1_touches 15 = .ok (.iaload, 1) := by decide +kernel
theorem dX1_touches_16 : decode cX1_touches 16 = .ok (.iload_n 2, 1) := by decide +kernel
theorem dX1_touches_17 : decode cX1_touches 17 = .ok (.if_icmp .ne 7, 3) := by decide +kernel
theorem dX1_touches_20 : decode cX1_touches 20 = .ok (.iconst 1, 1) := by decide +kernel
theorem dX1_touches_21 : decode cX1_touches 21 = .ok (.goto 4, 3) := by decide +kernel
theorem dX1_touches_24 : decode cX1_touches 24 = .ok (.iconst 0, 1) := by decide +kernel
theorem dX1_touches_25 : decode cX1_touches 25 = .ok (.ireturn, 1) := by decide +kernel
set_option maxRecDepth 20000 in
theorem ggX1_links_X1_touches : GoodIn wsX1_links wsX1_touches := goodIn_r _ [5, 6, 7, 12, 13, 14, 15, 16, 17, 18, 19, 20, 21, 22, 23] (by decide +kernel) (by decide +kernel)
set_option maxRecDepth 20000 in
theorem gX1_links_X1_touches : GoodIn wsX1_links (wsV RX1 48 RX1 yX1_touches wsX1_touches) := goodIn_app (goodIn_of _ (by decide +kernel)) ggX1_links_X1_touches
set_option maxRecDepth 20000 in
theorem ggX1_links_X1_farEnd : GoodIn wsX1_links wsX1_farEnd := goodIn_r _ [11, 6, 7, 12, 13, 14, 15, 16, 17, 18, 19, 20, 21, 22, 23] (by decide +kernel) (by decide +kernel)
set_option maxRecDepth 20000 in
theorem gX1_links_X1_farEnd : GoodIn wsX1_links (wsV RX1 52 RX1 yX1_farEnd wsX1_farEnd) := goodIn_app (goodIn_of _ (by decide +kernel)) ggX1_links_X1_farEnd
theorem dX1_links_0 : decode cX1_links 0 = .ok (.aload_n 0, 1) := by decide +kernel
theorem dX1_links_1 : decode cX1_links 1 = .ok (.iload_n 1, 1) := by decide +kernel
theorem dX1_links_2 : decode cX1_links 2 = .ok (.iload_n 2, 1) := by decide +kernel
theorem dX1_links_3 : decode cX1_links 3 = .ok (.invokevirtual 48, 3) := by decide +kernel
theorem dX1_links_6 : decode cX1_links 6 = .ok (.ifCond .eq 17, 3) := by decide +kernel
theorem dX1_links_9 : decode cX1_links 9 = .ok (.aload_n 0, 1) := by decide +kernel
theorem dX1_links_10 : decode cX1_links 10 = .ok (.iload_n 1, 1) := by decide +kernel
theorem dX1_links_11 : decode cX1_links 11 = .ok (.iload_n 2, 1) := by decide +kernel
theorem dX1_links_12 : decode cX1_links 12 = .ok (.invokevirtual 52, 3) := by decide +kernel
theorem dX1_links_15 : decode cX1_links 15 = .ok (.iload_n 3, 1) := by decide +kernel
theorem dX1_links_16 : decode cX1_links 16 = .ok (.if_icmp .ne 7, 3) := by decide +kernel
theorem dX1_links_19 : decode cX1_links 19 = .ok (.iconst 1, 1) := by decide +kernel
theorem dX1_links_20 : decode cX1_links 20 = .ok (.goto 4, 3) := by decide +kernel
theorem dX1_links_23 : decode cX1_links 23 = .ok (.iconst 0, 1) := by decide +kernel
theorem dX1_links_24 : decode cX1_links 24 = .ok (.ireturn, 1) := by decide +kernel
theorem dX1_farEnd_0 : decode cX1_farEnd 0 = .ok (.aload_n 0, 1) := by decide +kernel
theorem dX1_farEnd_1 : decode cX1_farEnd 1 = .ok (.getfield 16, 3) := by decide +kernel
theorem dX1_farEnd_4 : decode cX1_farEnd 4 = .ok (.iload_n 1, 1) := by decide +kernel
theorem dX1_farEnd_5 : decode cX1_farEnd 5 = .ok (.iaload, 1) := by decide +kernel
theorem dX1_farEnd_6 : decode cX1_farEnd 6 = .ok (.iload_n 2, 1) := by decide +kernel
theorem dX1_farEnd_7 : decode cX1_farEnd 7 = .ok (.if_icmp .ne 12, 3) := by decide +kernel
theorem dX1_farEnd_10 : decode cX1_farEnd 10 = .ok (.aload_n 0, 1) := by decide +kernel
theorem dX1_farEnd_11 : decode cX1_farEnd 11 = .ok (.getfield 19, 3) := by decide +kernel
theorem dX1_farEnd_14 : decode cX1_farEnd 14 = .ok (.iload_n 1, 1) := by decide +kernel
theorem dX1_farEnd_15 : decode cX1_farEnd 15 = .ok (.iaload, 1) := by decide +kernel
theorem dX1_farEnd_16 : decode cX1_farEnd 16 = .ok (.goto 9, 3) := by decide +kernel
theorem dX1_farEnd_19 : decode cX1_farEnd 19 = .ok (.aload_n 0, 1) := by decide +kernel
theorem dX1_farEnd_20 : decode cX1_farEnd 20 = .ok (.getfield 16, 3) := by decide +kernel
theorem dX1_farEnd_23 : decode cX1_farEnd 23 = .ok (.iload_n 1, 1) := by decide +kernel
theorem dX1_farEnd_24 : decode cX1_farEnd 24 = .ok (.iaload, 1) := by decide +kernel
theorem dX1_farEnd_25 : decode cX1_farEnd 25 = .ok (.ireturn, 1) := by decide +kernel
set_option maxRecDepth 20000 in
theorem ggX1_roadsAt_X1_touches : GoodIn wsX1_roadsAt wsX1_touches := goodIn_r _ [6, 7, 8, 9, 10, 11, 12, 13, 14, 15, 16, 17, 18, 19, 20] (by decide +kernel) (by decide +kernel)
set_option maxRecDepth 20000 in
theorem gX1_roadsAt_X1_touches : GoodIn wsX1_roadsAt (wsV RX1 48 RX1 yX1_touches wsX1_touches) := goodIn_app (goodIn_of _ (by decide +kernel)) ggX1_roadsAt_X1_touches
theorem dX1_roadsAt_0 : decode cX1_roadsAt 0 = .ok (.iconst 0, 1) := by decide +kernel
theorem dX1_roadsAt_1 : decode cX1_roadsAt 1 = .ok (.istore_n 2, 1) := by decide +kernel
theorem dX1_roadsAt_2 : decode cX1_roadsAt 2 = .ok (.iconst 0, 1) := by decide +kernel
theorem dX1_roadsAt_3 : decode cX1_roadsAt 3 = .ok (.istore_n 3, 1) := by decide +kernel
theorem dX1_roadsAt_4 : decode cX1_roadsAt 4 = .ok (.iload_n 3, 1) := by decide +kernel
theorem dX1_roadsAt_5 : decode cX1_roadsAt 5 = .ok (.aload_n 0, 1) := by decide +kernel
theorem dX1_roadsAt_6 : decode cX1_roadsAt 6 = .ok (.getfield 38, 3) := by decide +kernel
theorem dX1_roadsAt_9 : decode cX1_roadsAt 9 = .ok (.if_icmp .ge 24, 3) := by decide +kernel
theorem dX1_roadsAt_12 : decode cX1_roadsAt 12 = .ok (.aload_n 0, 1) := by decide +kernel
theorem dX1_roadsAt_13 : decode cX1_roadsAt 13 = .ok (.iload_n 3, 1) := by decide +kernel
theorem dX1_roadsAt_14 : decode cX1_roadsAt 14 = .ok (.iload_n 1, 1) := by decide +kernel
theorem dX1_roadsAt_15 : decode cX1_roadsAt 15 = .ok (.invokevirtual 48, 3) := by decide +kernel
theorem dX1_roadsAt_18 : decode cX1_roadsAt 18 = .ok (.ifCond .eq 9, 3) := by decide +kernel
theorem dX1_roadsAt_21 : decode cX1_roadsAt 21 = .ok (.iload_n 2, 1) := by decide +kernel
theorem dX1_roadsAt_22 : decode cX1_roadsAt 22 = .ok (.iconst 1, 1) := by decide +kernel
theorem dX1_roadsAt_23 : decode cX1_roadsAt 23 = .ok (.iload_n 3, 1) := by decide +kernel
theorem dX1_roadsAt_24 : decode cX1_roadsAt 24 = .ok (.ishl, 1) := by decide +kernel
theorem dX1_roadsAt_25 : decode cX1_roadsAt 25 = .ok (.ior, 1) := by decide +kernel
theorem dX1_roadsAt_26 : decode cX1_roadsAt 26 = .ok (.istore_n 2, 1) := by decide +kernel
theorem dX1_roadsAt_27 : decode cX1_roadsAt 27 = .ok (.iinc 3 1, 3) := by decide +kernel
theorem dX1_roadsAt_30 : decode cX1_roadsAt 30 = .ok (.goto (-26), 3) := by decide +kernel
theorem dX1_roadsAt_33 : decode cX1_roadsAt 33 = .ok (.iload_n 2, 1) := by decide +kernel
theorem dX1_roadsAt_34 : decode cX1_roadsAt 34 = .ok (.ireturn, 1) := by decide +kernel
set_option maxRecDepth 20000 in
theorem ggX1_afterHourIn_X3_heat : GoodIn wsX1_afterHourIn wsX3_heat := goodIn_r _ [6, 7, 8, 9, 10, 11, 12, 5, 13] (by decide +kernel) (by decide +kernel)
set_option maxRecDepth 20000 in
theorem gX1_afterHourIn_X3_heat : GoodIn wsX1_afterHourIn (va_wsS RX1 56 yX3_heat wsX3_heat) := goodIn_app (goodIn_of _ (by decide +kernel)) ggX1_afterHourIn_X3_heat
set_option maxRecDepth 20000 in
theorem ggX1_afterHourIn_X3_less : GoodIn wsX1_afterHourIn wsX3_less := goodIn_r _ [16, 17, 18, 9, 19] (by decide +kernel) (by decide +kernel)
set_option maxRecDepth 20000 in
theorem gX1_afterHourIn_X3_less : GoodIn wsX1_afterHourIn (va_wsS RX1 62 yX3_less wsX3_less) := goodIn_app (goodIn_of _ (by decide +kernel)) ggX1_afterHourIn_X3_less
theorem dX1_afterHourIn_0 : decode cX1_afterHourIn 0 = .ok (.iload_n 2, 1) := by decide +kernel
theorem dX1_afterHourIn_1 : decode cX1_afterHourIn 1 = .ok (.ifCond .eq 13, 3) := by decide +kernel
theorem dX1_afterHourIn_4 : decode cX1_afterHourIn 4 = .ok (.aload_n 0, 1) := by decide +kernel
theorem dX1_afterHourIn_5 : decode cX1_afterHourIn 5 = .ok (.getfield 9, 3) := by decide +kernel
theorem dX1_afterHourIn_8 : decode cX1_afterHourIn 8 = .ok (.iload_n 1, 1) := by decide +kernel
theorem dX1_afterHourIn_9 : decode cX1_afterHourIn 9 = .ok (.iaload, 1) := by decide +kernel
theorem dX1_afterHourIn_10 : decode cX1_afterHourIn 10 = .ok (.iconst 2, 1) := by decide +kernel
theorem dX1_afterHourIn_11 : decode cX1_afterHourIn 11 = .ok (.if_icmp .ne 5, 3) := by decide +kernel
theorem dX1_afterHourIn_14 : decode cX1_afterHourIn 14 = .ok (.iload_n 2, 1) := by decide +kernel
theorem dX1_afterHourIn_15 : decode cX1_afterHourIn 15 = .ok (.ireturn, 1) := by decide +kernel
theorem dX1_afterHourIn_16 : decode cX1_afterHourIn 16 = .ok (.iload_n 2, 1) := by decide +kernel
theorem dX1_afterHourIn_17 : decode cX1_afterHourIn 17 = .ok (.aload_n 0, 1) := by decide +kernel
theorem dX1_afterHourIn_18 : decode cX1_afterHourIn 18 = .ok (.getfield 44, 3) := by decide +kernel
theorem dX1_afterHourIn_21 : decode cX1_afterHourIn 21 = .ok (.iload_n 3, 1) := by decide +kernel
theorem dX1_afterHourIn_22 : decode cX1_afterHourIn 22 = .ok (.iload_n 2, 1) := by decide +kernel
theorem dX1_afterHourIn_23 : decode cX1_afterHourIn 23 = .ok (.iload 4, 2) := by decide +kernel
theorem dX1_afterHourIn_25 : decode cX1_afterHourIn 25 = .ok (.iload 5, 2) := by decide +kernel
theorem dX1_afterHourIn_27 : decode cX1_afterHourIn 27 = .ok (.invokestatic 56, 3) := by decide +kernel
theorem dX1_afterHourIn_30 : decode cX1_afterHourIn 30 = .ok (.invokestatic 62, 3) := by decide +kernel
theorem dX1_afterHourIn_33 : decode cX1_afterHourIn 33 = .ok (.ireturn, 1) := by decide +kernel
set_option maxRecDepth 20000 in
theorem ggX1_afterRoad_X3_heat : GoodIn wsX1_afterRoad wsX3_heat := goodIn_r _ [7, 8, 9, 10, 11, 12, 13, 6, 14] (by decide +kernel) (by decide +kernel)
set_option maxRecDepth 20000 in
theorem gX1_afterRoad_X3_heat : GoodIn wsX1_afterRoad (va_wsS RX1 56 yX3_heat wsX3_heat) := goodIn_app (goodIn_of _ (by decide +kernel)) ggX1_afterRoad_X3_heat
set_option maxRecDepth 20000 in
theorem ggX1_afterRoad_X3_less : GoodIn wsX1_afterRoad wsX3_less := goodIn_r _ [17, 18, 19, 10, 20] (by decide +kernel) (by decide +kernel)
set_option maxRecDepth 20000 in
theorem gX1_afterRoad_X3_less : GoodIn wsX1_afterRoad (va_wsS RX1 62 yX3_less wsX3_less) := goodIn_app (goodIn_of _ (by decide +kernel)) ggX1_afterRoad_X3_less
theorem dX1_afterRoad_0 : decode cX1_afterRoad 0 = .ok (.aload_n 0, 1) := by decide +kernel
theorem dX1_afterRoad_1 : decode cX1_afterRoad 1 = .ok (.getfield 13, 3) := by decide +kernel
theorem dX1_afterRoad_4 : decode cX1_afterRoad 4 = .ok (.iload_n 1, 1) := by decide +kernel
theorem dX1_afterRoad_5 : decode cX1_afterRoad 5 = .ok (.iaload, 1) := by decide +kernel
theorem dX1_afterRoad_6 : decode cX1_afterRoad 6 = .ok (.iconst 1, 1) := by decide +kernel
theorem dX1_afterRoad_7 : decode cX1_afterRoad 7 = .ok (.if_icmp .ne 7, 3) := by decide +kernel
theorem dX1_afterRoad_10 : decode cX1_afterRoad 10 = .ok (.iconst 1, 1) := by decide +kernel
theorem dX1_afterRoad_11 : decode cX1_afterRoad 11 = .ok (.goto 4, 3) := by decide +kernel
theorem dX1_afterRoad_14 : decode cX1_afterRoad 14 = .ok (.iconst 0, 1) := by decide +kernel
theorem dX1_afterRoad_15 : decode cX1_afterRoad 15 = .ok (.istore 6, 2) := by decide +kernel
theorem dX1_afterRoad_17 : decode cX1_afterRoad 17 = .ok (.iload_n 2, 1) := by decide +kernel
theorem dX1_afterRoad_18 : decode cX1_afterRoad 18 = .ok (.istore 7, 2) := by decide +kernel
theorem dX1_afterRoad_20 : decode cX1_afterRoad 20 = .ok (.iconst 0, 1) := by decide +kernel
theorem dX1_afterRoad_21 : decode cX1_afterRoad 21 = .ok (.istore 8, 2) := by decide +kernel
theorem dX1_afterRoad_23 : decode cX1_afterRoad 23 = .ok (.iload 8, 2) := by decide +kernel
theorem dX1_afterRoad_25 : decode cX1_afterRoad 25 = .ok (.aload_n 0, 1) := by decide +kernel
theorem dX1_afterRoad_26 : decode cX1_afterRoad 26 = .ok (.getfield 22, 3) := by decide +kernel
theorem dX1_afterRoad_29 : decode cX1_afterRoad 29 = .ok (.iload_n 1, 1) := by decide +kernel
theorem dX1_afterRoad_30 : decode cX1_afterRoad 30 = .ok (.iaload, 1) := by decide +kernel
theorem dX1_afterRoad_31 : decode cX1_afterRoad 31 = .ok (.if_icmp .ge 54, 3) := by decide +kernel
theorem dX1_afterRoad_34 : decode cX1_afterRoad 34 = .ok (.iload 7, 2) := by decide +kernel
theorem dX1_afterRoad_36 : decode cX1_afterRoad 36 = .ok (.ifCond .le 49, 3) := by decide +kernel
theorem dX1_afterRoad_39 : decode cX1_afterRoad 39 = .ok (.aload_n 0, 1) := by decide +kernel
theorem dX1_afterRoad_40 : decode cX1_afterRoad 40 = .ok (.getfield 44, 3) := by decide +kernel
theorem dX1_afterRoad_43 : decode cX1_afterRoad 43 = .ok (.iload_n 3, 1) := by decide +kernel
theorem dX1_afterRoad_44 : decode cX1_afterRoad 44 = .ok (.iload 8, 2) := by decide +kernel
theorem dX1_afterRoad_46 : decode cX1_afterRoad 46 = .ok (.iadd, 1) := by decide +kernel
theorem dX1_afterRoad_47 : decode cX1_afterRoad 47 = .ok (.iload 7, 2) := by decide +kernel
theorem dX1_afterRoad_49 : decode cX1_afterRoad 49 = .ok (.iload 4, 2) := by decide +kernel
theorem dX1_afterRoad_51 : decode cX1_afterRoad 51 = .ok (.iload 5, 2) := by decide +kernel
theorem dX1_afterRoad_53 : decode cX1_afterRoad 53 = .ok (.invokestatic 56, 3) := by decide +kernel
theorem dX1_afterRoad_56 : decode cX1_afterRoad 56 = .ok (.istore 9, 2) := by decide +kernel
theorem dX1_afterRoad_58 : decode cX1_afterRoad 58 = .ok (.iload 7, 2) := by decide +kernel
theorem dX1_afterRoad_60 : decode cX1_afterRoad 60 = .ok (.iload 6, 2) := by decide +kernel
theorem dX1_afterRoad_62 : decode cX1_afterRoad 62 = .ok (.ifCond .eq 10, 3) := by decide +kernel
theorem dX1_afterRoad_65 : decode cX1_afterRoad 65 = .ok (.iload 9, 2) := by decide +kernel
theorem dX1_afterRoad_67 : decode cX1_afterRoad 67 = .ok (.iconst 2, 1) := by decide +kernel
theorem dX1_afterRoad_68 : decode cX1_afterRoad 68 = .ok (.idiv, 1) := by decide +kernel
theorem dX1_afterRoad_69 : decode cX1_afterRoad 69 = .ok (.goto 5, 3) := by decide +kernel
theorem dX1_afterRoad_72 : decode cX1_afterRoad 72 = .ok (.iload 9, 2) := by decide +kernel
theorem dX1_afterRoad_74 : decode cX1_afterRoad 74 = .ok (.invokestatic 62, 3) := by decide +kernel
theorem dX1_afterRoad_77 : decode cX1_afterRoad 77 = .ok (.istore 7, 2) := by decide +kernel
theorem dX1_afterRoad_79 : decode cX1_afterRoad 79 = .ok (.iinc 8 1, 3) := by decide +kernel
theorem dX1_afterRoad_82 : decode cX1_afterRoad 82 = .ok (.goto (-59), 3) := by decide +kernel
theorem dX1_afterRoad_85 : decode cX1_afterRoad 85 = .ok (.aload_n 0, 1) := by decide +kernel
theorem dX1_afterRoad_86 : decode cX1_afterRoad 86 = .ok (.getfield 13, 3) := by decide +kernel
theorem dX1_afterRoad_89 : decode cX1_afterRoad 89 = .ok (.iload_n 1, 1) := by decide +kernel
theorem dX1_afterRoad_90 : decode cX1_afterRoad 90 = .ok (.iaload, 1) := by decide +kernel
theorem dX1_afterRoad_91 : decode cX1_afterRoad 91 = .ok (.iconst 2, 1) := by decide +kernel
theorem dX1_afterRoad_92 : decode cX1_afterRoad 92 = .ok (.if_icmp .ne 14, 3) := by decide +kernel
theorem dX1_afterRoad_95 : decode cX1_afterRoad 95 = .ok (.iload 7, 2) := by decide +kernel
theorem dX1_afterRoad_97 : decode cX1_afterRoad 97 = .ok (.iload 7, 2) := by decide +kernel
theorem dX1_afterRoad_99 : decode cX1_afterRoad 99 = .ok (.bipush 10, 2) := by decide +kernel
theorem dX1_afterRoad_101 : decode cX1_afterRoad 101 = .ok (.idiv, 1) := by decide +kernel
theorem dX1_afterRoad_102 : decode cX1_afterRoad 102 = .ok (.isub, 1) := by decide +kernel
theorem dX1_afterRoad_103 : decode cX1_afterRoad 103 = .ok (.goto 5, 3) := by decide +kernel
theorem dX1_afterRoad_106 : decode cX1_afterRoad 106 = .ok (.iload 7, 2) := by decide +kernel
theorem dX1_afterRoad_108 : decode cX1_afterRoad 108 = .ok (.ireturn, 1) := by decide +kernel
theorem dX2_priceIn_0 : decode cX2_priceIn 0 = .ok (.iload_n 0, 1) := by decide +kernel
theorem dX2_priceIn_1 : decode cX2_priceIn 1 = .ok (.bipush 24, 2) := by decide +kernel
theorem dX2_priceIn_3 : decode cX2_priceIn 3 = .ok (.irem, 1) := by decide +kernel
theorem dX2_priceIn_4 : decode cX2_priceIn 4 = .ok (.bipush 6, 2) := by decide +kernel
theorem dX2_priceIn_6 : decode cX2_priceIn 6 = .ok (.idiv, 1) := by decide +kernel
theorem dX2_priceIn_7 : decode cX2_priceIn 7 = .ok (.tableswitch 31 0 2 #[25, 27, 29], 25) := by decide +kernel
theorem dX2_priceIn_32 : decode cX2_priceIn 32 = .ok (.iconst 4, 1) := by decide +kernel
theorem dX2_priceIn_33 : decode cX2_priceIn 33 = .ok (.ireturn, 1) := by decide +kernel
theorem dX2_priceIn_34 : decode cX2_priceIn 34 = .ok (.iconst 3, 1) := by decide +kernel
theorem dX2_priceIn_35 : decode cX2_priceIn 35 = .ok (.ireturn, 1) := by decide +kernel
theorem dX2_priceIn_36 : decode cX2_priceIn 36 = .ok (.iconst 5, 1) := by decide +kernel
theorem dX2_priceIn_37 : decode cX2_priceIn 37 = .ok (.ireturn, 1) := by decide +kernel
theorem dX2_priceIn_38 : decode cX2_priceIn 38 = .ok (.iconst 2, 1) := by decide +kernel
theorem dX2_priceIn_39 : decode cX2_priceIn 39 = .ok (.ireturn, 1) := by decide +kernel
theorem dX2_tens_0 : decode cX2_tens 0 = .ok (.lconst 1, 1) := by decide +kernel
theorem dX2_tens_1 : decode cX2_tens 1 = .ok (.lstore_n 1, 1) := by decide +kernel
theorem dX2_tens_2 : decode cX2_tens 2 = .ok (.iconst 0, 1) := by decide +kernel
theorem dX2_tens_3 : decode cX2_tens 3 = .ok (.istore_n 3, 1) := by decide +kernel
theorem dX2_tens_4 : decode cX2_tens 4 = .ok (.iload_n 3, 1) := by decide +kernel
theorem dX2_tens_5 : decode cX2_tens 5 = .ok (.iload_n 0, 1) := by decide +kernel
theorem dX2_tens_6 : decode cX2_tens 6 = .ok (.if_icmp .ge 15, 3) := by decide +kernel
theorem dX2_tens_9 : decode cX2_tens 9 = .ok (.lload_n 1, 1) := by decide +kernel
theorem dX2_tens_10 : decode cX2_tens 10 = .ok (.ldc2_w 7, 3) := by decide +kernel
theorem dX2_tens_13 : decode cX2_tens 13 = .ok (.lmul, 1) := by decide +kernel
theorem dX2_tens_14 : decode cX2_tens 14 = .ok (.lstore_n 1, 1) := by decide +kernel
theorem dX2_tens_15 : decode cX2_tens 15 = .ok (.iinc 3 1, 3) := by decide +kernel
theorem dX2_tens_18 : decode cX2_tens 18 = .ok (.goto (-14), 3) := by decide +kernel
theorem dX2_tens_21 : decode cX2_tens 21 = .ok (.lload_n 1, 1) := by decide +kernel
theorem dX2_tens_22 : decode cX2_tens 22 = .ok (.lreturn, 1) := by decide +kernel
set_option maxRecDepth 20000 in
theorem ggX2_sealedWorth_X2_tens : GoodIn wsX2_sealedWorth wsX2_tens := goodIn_r _ [8, 9] (by decide +kernel) (by decide +kernel)
set_option maxRecDepth 20000 in
theorem gX2_sealedWorth_X2_tens : GoodIn wsX2_sealedWorth (va_wsS RX2 11 yX2_tens wsX2_tens) := goodIn_app (goodIn_of _ (by decide +kernel)) ggX2_sealedWorth_X2_tens
set_option maxRecDepth 20000 in
theorem ggX2_sealedWorth_X3_opened : GoodIn wsX2_sealedWorth wsX3_opened := goodIn_r _ [13, 14, 15, 12, 16] (by decide +kernel) (by decide +kernel)
set_option maxRecDepth 20000 in
theorem gX2_sealedWorth_X3_opened : GoodIn wsX2_sealedWorth (va_wsS RX2 15 yX3_opened wsX3_opened) := goodIn_app (goodIn_of _ (by decide +kernel)) ggX2_sealedWorth_X3_opened
set_option maxRecDepth 20000 in
theorem ggX2_sealedWorth_X2_sealedWorth : GoodIn wsX2_sealedWorth wsX2_sealedWorth := goodIn_r _ [0, 1, 2, 3, 4, 5, 6, 7, 8, 9, 10, 11, 12, 13, 14, 15, 16, 17, 18] (by decide +kernel) (by decide +kernel)
set_option maxRecDepth 20000 in
theorem gX2_sealedWorth_X2_sealedWorth : GoodIn wsX2_sealedWorth (va_wsS RX2 21 yX2_sealedWorth wsX2_sealedWorth) := goodIn_app (goodIn_of _ (by decide +kernel)) ggX2_sealedWorth_X2_sealedWorth
theorem dX2_sealedWorth_0 : decode cX2_sealedWorth 0 = .ok (.iload_n 1, 1) := by decide +kernel
theorem dX2_sealedWorth_1 : decode cX2_sealedWorth 1 = .ok (.iconst 1, 1) := by decide +kernel
theorem dX2_sealedWorth_2 : decode cX2_sealedWorth 2 = .ok (.if_icmp .lt 9, 3) := by decide +kernel
theorem dX2_sealedWorth_5 : decode cX2_sealedWorth 5 = .ok (.iload_n 1, 1) := by decide +kernel
theorem dX2_sealedWorth_6 : decode cX2_sealedWorth 6 = .ok (.bipush 6, 2) := by decide +kernel
theorem dX2_sealedWorth_8 : decode cX2_sealedWorth 8 = .ok (.if_icmp .le 5, 3) := by decide +kernel
theorem dX2_sealedWorth_11 : decode cX2_sealedWorth 11 = .ok (.lconst 0, 1) := by decide +kernel
theorem dX2_sealedWorth_12 : decode cX2_sealedWorth 12 = .ok (.lreturn, 1) := by decide +kernel
theorem dX2_sealedWorth_13 : decode cX2_sealedWorth 13 = .ok (.iload_n 1, 1) := by decide +kernel
theorem dX2_sealedWorth_14 : decode cX2_sealedWorth 14 = .ok (.iconst 1, 1) := by decide +kernel
theorem dX2_sealedWorth_15 : decode cX2_sealedWorth 15 = .ok (.isub, 1) := by decide +kernel
theorem dX2_sealedWorth_16 : decode cX2_sealedWorth 16 = .ok (.invokestatic 11, 3) := by decide +kernel
theorem dX2_sealedWorth_19 : decode cX2_sealedWorth 19 = .ok (.lstore_n 3, 1) := by decide +kernel
theorem dX2_sealedWorth_20 : decode cX2_sealedWorth 20 = .ok (.iconst 5, 1) := by decide +kernel
theorem dX2_sealedWorth_21 : decode cX2_sealedWorth 21 = .ok (.iload_n 0, 1) := by decide +kernel
theorem dX2_sealedWorth_22 : decode cX2_sealedWorth 22 = .ok (.imul, 1) := by decide +kernel
theorem dX2_sealedWorth_23 : decode cX2_sealedWorth 23 = .ok (.i2l, 1) := by decide +kernel
theorem dX2_sealedWorth_24 : decode cX2_sealedWorth 24 = .ok (.lload_n 3, 1) := by decide +kernel
theorem dX2_sealedWorth_25 : decode cX2_sealedWorth 25 = .ok (.lmul, 1) := by decide +kernel
theorem dX2_sealedWorth_26 : decode cX2_sealedWorth 26 = .ok (.iload_n 0, 1) := by decide +kernel
theorem dX2_sealedWorth_27 : decode cX2_sealedWorth 27 = .ok (.invokestatic 15, 3) := by decide +kernel
theorem dX2_sealedWorth_30 : decode cX2_sealedWorth 30 = .ok (.iload_n 1, 1) := by decide +kernel
theorem dX2_sealedWorth_31 : decode cX2_sealedWorth 31 = .ok (.iconst 1, 1) := by decide +kernel
theorem dX2_sealedWorth_32 : decode cX2_sealedWorth 32 = .ok (.isub, 1) := by decide +kernel
theorem dX2_sealedWorth_33 : decode cX2_sealedWorth 33 = .ok (.iload_n 2, 1) := by decide +kernel
theorem dX2_sealedWorth_34 : decode cX2_sealedWorth 34 = .ok (.invokestatic 21, 3) := by decide +kernel
theorem dX2_sealedWorth_37 : decode cX2_sealedWorth 37 = .ok (.invokestatic 25, 3) := by decide +kernel
theorem dX2_sealedWorth_40 : decode cX2_sealedWorth 40 = .ok (.lstore 5, 2) := by decide +kernel
theorem dX2_sealedWorth_42 : decode cX2_sealedWorth 42 = .ok (.iconst 3, 1) := by decide +kernel
theorem dX2_sealedWorth_43 : decode cX2_sealedWorth 43 = .ok (.iload_n 0, 1) := by decide +kernel
theorem dX2_sealedWorth_44 : decode cX2_sealedWorth 44 = .ok (.imul, 1) := by decide +kernel
theorem dX2_sealedWorth_45 : decode cX2_sealedWorth 45 = .ok (.i2l, 1) := by decide +kernel
theorem dX2_sealedWorth_46 : decode cX2_sealedWorth 46 = .ok (.lload_n 3, 1) := by decide +kernel
theorem dX2_sealedWorth_47 : decode cX2_sealedWorth 47 = .ok (.lmul, 1) := by decide +kernel
theorem dX2_sealedWorth_48 : decode cX2_sealedWorth 48 = .ok (.iload_n 0, 1) := by decide +kernel
theorem dX2_sealedWorth_49 : decode cX2_sealedWorth 49 = .ok (.iload_n 1, 1) := by decide +kernel
theorem dX2_sealedWorth_50 : decode cX2_sealedWorth 50 = .ok (.iconst 1, 1) := by decide +kernel
theorem dX2_sealedWorth_51 : decode cX2_sealedWorth 51 = .ok (.isub, 1) := by decide +kernel
theorem dX2_sealedWorth_52 : decode cX2_sealedWorth 52 = .ok (.iload_n 2, 1) := by decide +kernel
theorem dX2_sealedWorth_53 : decode cX2_sealedWorth 53 = .ok (.invokestatic 21, 3) := by decide +kernel
theorem dX2_sealedWorth_56 : decode cX2_sealedWorth 56 = .ok (.invokestatic 25, 3) := by decide +kernel
theorem dX2_sealedWorth_59 : decode cX2_sealedWorth 59 = .ok (.lstore 7, 2) := by decide +kernel
theorem dX2_sealedWorth_61 : decode cX2_sealedWorth 61 = .ok (.iload_n 2, 1) := by decide +kernel
theorem dX2_sealedWorth_62 : decode cX2_sealedWorth 62 = .ok (.i2l, 1) := by decide +kernel
theorem dX2_sealedWorth_63 : decode cX2_sealedWorth 63 = .ok (.lload 5, 2) := by decide +kernel
theorem dX2_sealedWorth_65 : decode cX2_sealedWorth 65 = .ok (.lmul, 1) := by decide +kernel
theorem dX2_sealedWorth_66 : decode cX2_sealedWorth 66 = .ok (.bipush 10, 2) := by decide +kernel
theorem dX2_sealedWorth_68 : decode cX2_sealedWorth 68 = .ok (.iload_n 2, 1) := by decide +kernel
theorem dX2_sealedWorth_69 : decode cX2_sealedWorth 69 = .ok (.isub, 1) := by decide +kernel
theorem dX2_sealedWorth_70 : decode cX2_sealedWorth 70 = .ok (.i2l, 1) := by decide +kernel
theorem dX2_sealedWorth_71 : decode cX2_sealedWorth 71 = .ok (.lload 7, 2) := by decide +kernel
theorem dX2_sealedWorth_73 : decode cX2_sealedWorth 73 = .ok (.lmul, 1) := by decide +kernel
theorem dX2_sealedWorth_74 : decode cX2_sealedWorth 74 = .ok (.ladd, 1) := by decide +kernel
theorem dX2_sealedWorth_75 : decode cX2_sealedWorth 75 = .ok (.lreturn, 1) := by decide +kernel
set_option maxRecDepth 20000 in
theorem ggX2_inLowestTerms_X2_tens : GoodIn wsX2_inLowestTerms wsX2_tens := goodIn_r _ [6, 7] (by decide +kernel) (by decide +kernel)
set_option maxRecDepth 20000 in
theorem gX2_inLowestTerms_X2_tens : GoodIn wsX2_inLowestTerms (va_wsS RX2 11 yX2_tens wsX2_tens) := goodIn_app (goodIn_of _ (by decide +kernel)) ggX2_inLowestTerms_X2_tens
theorem dX2_inLowestTerms_0 : decode cX2_inLowestTerms 0 = .ok (.lload_n 0, 1) := by decide +kernel
theorem dX2_inLowestTerms_1 : decode cX2_inLowestTerms 1 = .ok (.lstore 4, 2) := by decide +kernel
theorem dX2_inLowestTerms_3 : decode cX2_inLowestTerms 3 = .ok (.iload_n 2, 1) := by decide +kernel
theorem dX2_inLowestTerms_4 : decode cX2_inLowestTerms 4 = .ok (.invokestatic 11, 3) := by decide +kernel
theorem dX2_inLowestTerms_7 : decode cX2_inLowestTerms 7 = .ok (.lstore 6, 2) := by decide +kernel
theorem dX2_inLowestTerms_9 : decode cX2_inLowestTerms 9 = .ok (.iconst 0, 1) := by decide +kernel
theorem dX2_inLowestTerms_10 : decode cX2_inLowestTerms 10 = .ok (.istore 8, 2) := by decide +kernel
theorem dX2_inLowestTerms_12 : decode cX2_inLowestTerms 12 = .ok (.iload 8, 2) := by decide +kernel
theorem dX2_inLowestTerms_14 : decode cX2_inLowestTerms 14 = .ok (.iload_n 2, 1) := by decide +kernel
theorem dX2_inLowestTerms_15 : decode cX2_inLowestTerms 15 = .ok (.if_icmp .ge 85, 3) := by decide +kernel
theorem dX2_inLowestTerms_18 : decode cX2_inLowestTerms 18 = .ok (.lload 4, 2) := by decide +kernel
theorem dX2_inLowestTerms_20 : decode cX2_inLowestTerms 20 = .ok (.ldc2_w 31, 3) := by decide +kernel
theorem dX2_inLowestTerms_23 : decode cX2_inLowestTerms 23 = .ok (.lrem, 1) := by decide +kernel
theorem dX2_inLowestTerms_24 : decode cX2_inLowestTerms 24 = .ok (.lconst 0, 1) := by decide +kernel
theorem dX2_inLowestTerms_25 : decode cX2_inLowestTerms 25 = .ok (.lcmp, 1) := by decide +kernel
theorem dX2_inLowestTerms_26 : decode cX2_inLowestTerms 26 = .ok (.ifCond .ne 30, 3) := by decide +kernel
theorem dX2_inLowestTerms_29 : decode cX2_inLowestTerms 29 = .ok (.lload 6, 2) := by decide +kernel
theorem dX2_inLowestTerms_31 : decode cX2_inLowestTerms 31 = .ok (.ldc2_w 31, 3) := by decide +kernel
theorem dX2_inLowestTerms_34 : decode cX2_inLowestTerms 34 = .ok (.lrem, 1) := by decide +kernel
theorem dX2_inLowestTerms_35 : decode cX2_inLowestTerms 35 = .ok (.lconst 0, 1) := by decide +kernel
theorem dX2_inLowestTerms_36 : decode cX2_inLowestTerms 36 = .ok (.lcmp, 1) := by decide +kernel
theorem dX2_inLowestTerms_37 : decode cX2_inLowestTerms 37 = .ok (.ifCond .ne 19, 3) := by decide +kernel
theorem dX2_inLowestTerms_40 : decode cX2_inLowestTerms 40 = .ok (.lload 4, 2) := by decide +kernel
theorem dX2_inLowestTerms_42 : decode cX2_inLowestTerms 42 = .ok (.ldc2_w 31, 3) := by decide +kernel
theorem dX2_inLowestTerms_45 : decode cX2_inLowestTerms 45 = .ok (.ldiv, 1) := by decide +kernel
theorem dX2_inLowestTerms_46 : decode cX2_inLowestTerms 46 = .ok (.lstore 4, 2) := by decide +kernel
theorem dX2_inLowestTerms_48 : decode cX2_inLowestTerms 48 = .ok (.lload 6, 2) := by decide +kernel
theorem dX2_inLowestTerms_50 : decode cX2_inLowestTerms 50 = .ok (.ldc2_w 31, 3) := by decide +kernel
theorem dX2_inLowestTerms_53 : decode cX2_inLowestTerms 53 = .ok (.ldiv, 1) := by decide +kernel
theorem dX2_inLowestTerms_54 : decode cX2_inLowestTerms 54 = .ok (.lstore 6, 2) := by decide +kernel
theorem dX2_inLowestTerms_56 : decode cX2_inLowestTerms 56 = .ok (.lload 4, 2) := by decide +kernel
theorem dX2_inLowestTerms_58 : decode cX2_inLowestTerms 58 = .ok (.ldc2_w 33, 3) := by decide +kernel
theorem dX2_inLowestTerms_61 : decode cX2_inLowestTerms 61 = .ok (.lrem, 1) := by decide +kernel
theorem dX2_inLowestTerms_62 : decode cX2_inLowestTerms 62 = .ok (.lconst 0, 1) := by decide +kernel
theorem dX2_inLowestTerms_63 : decode cX2_inLowestTerms 63 = .ok (.lcmp, 1) := by decide +kernel
theorem dX2_inLowestTerms_64 : decode cX2_inLowestTerms 64 = .ok (.ifCond .ne 30, 3) := by decide +kernel
theorem dX2_inLowestTerms_67 : decode cX2_inLowestTerms 67 = .ok (.lload 6, 2) := by decide +kernel
theorem dX2_inLowestTerms_69 : decode cX2_inLowestTerms 69 = .ok (.ldc2_w 33, 3) := by decide +kernel
theorem dX2_inLowestTerms_72 : decode cX2_inLowestTerms 72 = .ok (.lrem, 1) := by decide +kernel
theorem dX2_inLowestTerms_73 : decode cX2_inLowestTerms 73 = .ok (.lconst 0, 1) := by decide +kernel
theorem dX2_inLowestTerms_74 : decode cX2_inLowestTerms 74 = .ok (.lcmp, 1) := by decide +kernel
theorem dX2_inLowestTerms_75 : decode cX2_inLowestTerms 75 = .ok (.ifCond .ne 19, 3) := by decide +kernel
theorem dX2_inLowestTerms_78 : decode cX2_inLowestTerms 78 = .ok (.lload 4, 2) := by decide +kernel
theorem dX2_inLowestTerms_80 : decode cX2_inLowestTerms 80 = .ok (.ldc2_w 33, 3) := by decide +kernel
theorem dX2_inLowestTerms_83 : decode cX2_inLowestTerms 83 = .ok (.ldiv, 1) := by decide +kernel
theorem dX2_inLowestTerms_84 : decode cX2_inLowestTerms 84 = .ok (.lstore 4, 2) := by decide +kernel
theorem dX2_inLowestTerms_86 : decode cX2_inLowestTerms 86 = .ok (.lload 6, 2) := by decide +kernel
theorem dX2_inLowestTerms_88 : decode cX2_inLowestTerms 88 = .ok (.ldc2_w 33, 3) := by decide +kernel
theorem dX2_inLowestTerms_91 : decode cX2_inLowestTerms 91 = .ok (.ldiv, 1) := by decide +kernel
theorem dX2_inLowestTerms_92 : decode cX2_inLowestTerms 92 = .ok (.lstore 6, 2) := by decide +kernel
theorem dX2_inLowestTerms_94 : decode cX2_inLowestTerms 94 = .ok (.iinc 8 1, 3) := by decide +kernel
theorem dX2_inLowestTerms_97 : decode cX2_inLowestTerms 97 = .ok (.goto (-85), 3) := by decide +kernel
theorem dX2_inLowestTerms_100 : decode cX2_inLowestTerms 100 = .ok (.iload_n 3, 1) := by decide +kernel
theorem dX2_inLowestTerms_101 : decode cX2_inLowestTerms 101 = .ok (.ifCond .ne 8, 3) := by decide +kernel
theorem dX2_inLowestTerms_104 : decode cX2_inLowestTerms 104 = .ok (.lload 4, 2) := by decide +kernel
theorem dX2_inLowestTerms_106 : decode cX2_inLowestTerms 106 = .ok (.goto 5, 3) := by decide +kernel
theorem dX2_inLowestTerms_109 : decode cX2_inLowestTerms 109 = .ok (.lload 6, 2) := by decide +kernel
theorem dX2_inLowestTerms_111 : decode cX2_inLowestTerms 111 = .ok (.lreturn, 1) := by decide +kernel
theorem dX3_root_0 : decode cX3_root 0 = .ok (.iconst 0, 1) := by decide +kernel
theorem dX3_root_1 : decode cX3_root 1 = .ok (.istore_n 1, 1) := by decide +kernel
theorem dX3_root_2 : decode cX3_root 2 = .ok (.iconst 1, 1) := by decide +kernel
theorem dX3_root_3 : decode cX3_root 3 = .ok (.istore_n 2, 1) := by decide +kernel
theorem dX3_root_4 : decode cX3_root 4 = .ok (.iload_n 2, 1) := by decide +kernel
theorem dX3_root_5 : decode cX3_root 5 = .ok (.bipush 32, 2) := by decide +kernel
theorem dX3_root_7 : decode cX3_root 7 = .ok (.if_icmp .gt 18, 3) := by decide +kernel
theorem dX3_root_10 : decode cX3_root 10 = .ok (.iload_n 2, 1) := by decide +kernel
theorem dX3_root_11 : decode cX3_root 11 = .ok (.iload_n 2, 1) := by decide +kernel
theorem dX3_root_12 : decode cX3_root 12 = .ok (.imul, 1) := by decide +kernel
theorem dX3_root_13 : decode cX3_root 13 = .ok (.iload_n 0, 1) := by decide +kernel
theorem dX3_root_14 : decode cX3_root 14 = .ok (.if_icmp .gt 11, 3) := by decide +kernel
theorem dX3_root_17 : decode cX3_root 17 = .ok (.iload_n 2, 1) := by decide +kernel
theorem dX3_root_18 : decode cX3_root 18 = .ok (.istore_n 1, 1) := by decide +kernel
theorem dX3_root_19 : decode cX3_root 19 = .ok (.iinc 2 1, 3) := by decide +kernel
theorem dX3_root_22 : decode cX3_root 22 = .ok (.goto (-18), 3) := by decide +kernel
theorem dX3_root_25 : decode cX3_root 25 = .ok (.iload_n 1, 1) := by decide +kernel
theorem dX3_root_26 : decode cX3_root 26 = .ok (.ireturn, 1) := by decide +kernel
set_option maxRecDepth 20000 in
theorem ggX3_opened_X3_root : GoodIn wsX3_opened wsX3_root := goodIn_r _ [4] (by decide +kernel) (by decide +kernel)
set_option maxRecDepth 20000 in
theorem gX3_opened_X3_root : GoodIn wsX3_opened (va_wsS RX3 7 yX3_root wsX3_root) := goodIn_app (goodIn_of _ (by decide +kernel)) ggX3_opened_X3_root
theorem dX3_opened_0 : decode cX3_opened 0 = .ok (.iload_n 0, 1) := by decide +kernel
theorem dX3_opened_1 : decode cX3_opened 1 = .ok (.iload_n 0, 1) := by decide +kernel
theorem dX3_opened_2 : decode cX3_opened 2 = .ok (.invokestatic 7, 3) := by decide +kernel
theorem dX3_opened_5 : decode cX3_opened 5 = .ok (.isub, 1) := by decide +kernel
theorem dX3_opened_6 : decode cX3_opened 6 = .ok (.ireturn, 1) := by decide +kernel
set_option maxRecDepth 20000 in
theorem ggX3_heat_X3_root : GoodIn wsX3_heat wsX3_root := goodIn_r _ [8] (by decide +kernel) (by decide +kernel)
set_option maxRecDepth 20000 in
theorem gX3_heat_X3_root : GoodIn wsX3_heat (va_wsS RX3 7 yX3_root wsX3_root) := goodIn_app (goodIn_of _ (by decide +kernel)) ggX3_heat_X3_root
theorem dX3_heat_0 : decode cX3_heat 0 = .ok (.iconst 0, 1) := by decide +kernel
theorem dX3_heat_1 : decode cX3_heat 1 = .ok (.iload_n 3, 1) := by decide +kernel
theorem dX3_heat_2 : decode cX3_heat 2 = .ok (.invokestatic 7, 3) := by decide +kernel
theorem dX3_heat_5 : decode cX3_heat 5 = .ok (.iconst 1, 1) := by decide +kernel
theorem dX3_heat_6 : decode cX3_heat 6 = .ok (.iadd, 1) := by decide +kernel
theorem dX3_heat_7 : decode cX3_heat 7 = .ok (.iload 4, 2) := by decide +kernel
theorem dX3_heat_9 : decode cX3_heat 9 = .ok (.isub, 1) := by decide +kernel
theorem dX3_heat_10 : decode cX3_heat 10 = .ok (.iload 5, 2) := by decide +kernel
theorem dX3_heat_12 : decode cX3_heat 12 = .ok (.isub, 1) := by decide +kernel
theorem dX3_heat_13 : decode cX3_heat 13 = .ok (.invokestatic 13, 3) := by decide +kernel
theorem dX3_heat_16 : decode cX3_heat 16 = .ok (.istore 6, 2) := by decide +kernel
theorem dX3_heat_18 : decode cX3_heat 18 = .ok (.lload_n 0, 1) := by decide +kernel
theorem dX3_heat_19 : decode cX3_heat 19 = .ok (.iload_n 2, 1) := by decide +kernel
theorem dX3_heat_20 : decode cX3_heat 20 = .ok (.lshr, 1) := by decide +kernel
theorem dX3_heat_21 : decode cX3_heat 21 = .ok (.lconst 1, 1) := by decide +kernel
theorem dX3_heat_22 : decode cX3_heat 22 = .ok (.land, 1) := by decide +kernel
theorem dX3_heat_23 : decode cX3_heat 23 = .ok (.lconst 0, 1) := by decide +kernel
theorem dX3_heat_24 : decode cX3_heat 24 = .ok (.lcmp, 1) := by decide +kernel
theorem dX3_heat_25 : decode cX3_heat 25 = .ok (.ifCond .eq 6, 3) := by decide +kernel
theorem dX3_heat_28 : decode cX3_heat 28 = .ok (.iinc 6 2, 3) := by decide +kernel
theorem dX3_heat_31 : decode cX3_heat 31 = .ok (.iload_n 2, 1) := by decide +kernel
theorem dX3_heat_32 : decode cX3_heat 32 = .ok (.bipush 24, 2) := by decide +kernel
theorem dX3_heat_34 : decode cX3_heat 34 = .ok (.irem, 1) := by decide +kernel
theorem dX3_heat_35 : decode cX3_heat 35 = .ok (.istore 7, 2) := by decide +kernel
theorem dX3_heat_37 : decode cX3_heat 37 = .ok (.iload 7, 2) := by decide +kernel
theorem dX3_heat_39 : decode cX3_heat 39 = .ok (.bipush 10, 2) := by decide +kernel
theorem dX3_heat_41 : decode cX3_heat 41 = .ok (.if_icmp .lt 17, 3) := by decide +kernel
theorem dX3_heat_44 : decode cX3_heat 44 = .ok (.iload 7, 2) := by decide +kernel
theorem dX3_heat_46 : decode cX3_heat 46 = .ok (.bipush 15, 2) := by decide +kernel
theorem dX3_heat_48 : decode cX3_heat 48 = .ok (.if_icmp .gt 10, 3) := by decide +kernel
theorem dX3_heat_51 : decode cX3_heat 51 = .ok (.iconst 2, 1) := by decide +kernel
theorem dX3_heat_52 : decode cX3_heat 52 = .ok (.iload 6, 2) := by decide +kernel
theorem dX3_heat_54 : decode cX3_heat 54 = .ok (.imul, 1) := by decide +kernel
theorem dX3_heat_55 : decode cX3_heat 55 = .ok (.goto 5, 3) := by decide +kernel
theorem dX3_heat_58 : decode cX3_heat 58 = .ok (.iload 6, 2) := by decide +kernel
theorem dX3_heat_60 : decode cX3_heat 60 = .ok (.ireturn, 1) := by decide +kernel
theorem dX3_less_0 : decode cX3_less 0 = .ok (.iload_n 0, 1) := by decide +kernel
theorem dX3_less_1 : decode cX3_less 1 = .ok (.iload_n 0, 1) := by decide +kernel
theorem dX3_less_2 : decode cX3_less 2 = .ok (.iload_n 1, 1) := by decide +kernel
theorem dX3_less_3 : decode cX3_less 3 = .ok (.invokestatic 19, 3) := by decide +kernel
theorem dX3_less_6 : decode cX3_less 6 = .ok (.isub, 1) := by decide +kernel
theorem dX3_less_7 : decode cX3_less 7 = .ok (.ireturn, 1) := by decide +kernel
set_option maxRecDepth 20000 in
theorem ggX3_afterOpen_X3_heat : GoodIn wsX3_afterOpen wsX3_heat := goodIn_r _ [4, 5, 6, 7, 8, 9, 10, 3, 11] (by decide +kernel) (by decide +kernel)
set_option maxRecDepth 20000 in
theorem gX3_afterOpen_X3_heat : GoodIn wsX3_afterOpen (va_wsS RX3 24 yX3_heat wsX3_heat) := goodIn_app (goodIn_of _ (by decide +kernel)) ggX3_afterOpen_X3_heat
set_option maxRecDepth 20000 in
theorem ggX3_afterOpen_X3_less : GoodIn wsX3_afterOpen wsX3_less := goodIn_r _ [14, 15, 16, 7, 17] (by decide +kernel) (by decide +kernel)
set_option maxRecDepth 20000 in
theorem gX3_afterOpen_X3_less : GoodIn wsX3_afterOpen (va_wsS RX3 28 yX3_less wsX3_less) := goodIn_app (goodIn_of _ (by decide +kernel)) ggX3_afterOpen_X3_less
theorem dX3_afterOpen_0 : decode cX3_afterOpen 0 = .ok (.iload 4, 2) := by decide +kernel
theorem dX3_afterOpen_2 : decode cX3_afterOpen 2 = .ok (.istore 5, 2) := by decide +kernel
theorem dX3_afterOpen_4 : decode cX3_afterOpen 4 = .ok (.iconst 0, 1) := by decide +kernel
theorem dX3_afterOpen_5 : decode cX3_afterOpen 5 = .ok (.istore 6, 2) := by decide +kernel
theorem dX3_afterOpen_7 : decode cX3_afterOpen 7 = .ok (.iload 6, 2) := by decide +kernel
theorem dX3_afterOpen_9 : decode cX3_afterOpen 9 = .ok (.iload_n 3, 1) := by decide +kernel
theorem dX3_afterOpen_10 : decode cX3_afterOpen 10 = .ok (.if_icmp .ge 28, 3) := by decide +kernel
theorem dX3_afterOpen_13 : decode cX3_afterOpen 13 = .ok (.iload 5, 2) := by decide +kernel
theorem dX3_afterOpen_15 : decode cX3_afterOpen 15 = .ok (.lload_n 0, 1) := by decide +kernel
theorem dX3_afterOpen_16 : decode cX3_afterOpen 16 = .ok (.iload_n 2, 1) := by decide +kernel
theorem dX3_afterOpen_17 : decode cX3_afterOpen 17 = .ok (.iload 6, 2) := by decide +kernel
theorem dX3_afterOpen_19 : decode cX3_afterOpen 19 = .ok (.iadd, 1) := by decide +kernel
theorem dX3_afterOpen_20 : decode cX3_afterOpen 20 = .ok (.iload 5, 2) := by decide +kernel
theorem dX3_afterOpen_22 : decode cX3_afterOpen 22 = .ok (.iconst 0, 1) := by decide +kernel
theorem dX3_afterOpen_23 : decode cX3_afterOpen 23 = .ok (.iconst 0, 1) := by decide +kernel
theorem dX3_afterOpen_24 : decode cX3_afterOpen 24 = .ok (.invokestatic 24, 3) := by decide +kernel
theorem dX3_afterOpen_27 : decode cX3_afterOpen 27 = .ok (.invokestatic 28, 3) := by decide +kernel
theorem dX3_afterOpen_30 : decode cX3_afterOpen 30 = .ok (.istore 5, 2) := by decide +kernel
theorem dX3_afterOpen_32 : decode cX3_afterOpen 32 = .ok (.iinc 6 1, 3) := by decide +kernel
theorem dX3_afterOpen_35 : decode cX3_afterOpen 35 = .ok (.goto (-28), 3) := by decide +kernel
theorem dX3_afterOpen_38 : decode cX3_afterOpen 38 = .ok (.iload 5, 2) := by decide +kernel
theorem dX3_afterOpen_40 : decode cX3_afterOpen 40 = .ok (.ireturn, 1) := by decide +kernel
theorem dX3_warmByDraw_0 : decode cX3_warmByDraw 0 = .ok (.lconst 0, 1) := by decide +kernel
theorem dX3_warmByDraw_1 : decode cX3_warmByDraw 1 = .ok (.lstore_n 2, 1) := by decide +kernel
theorem dX3_warmByDraw_2 : decode cX3_warmByDraw 2 = .ok (.iconst 0, 1) := by decide +kernel
theorem dX3_warmByDraw_3 : decode cX3_warmByDraw 3 = .ok (.istore 4, 2) := by decide +kernel
theorem dX3_warmByDraw_5 : decode cX3_warmByDraw 5 = .ok (.iload 4, 2) := by decide +kernel
theorem dX3_warmByDraw_7 : decode cX3_warmByDraw 7 = .ok (.iload_n 1, 1) := by decide +kernel
theorem dX3_warmByDraw_8 : decode cX3_warmByDraw 8 = .ok (.if_icmp .ge 56, 3) := by decide +kernel
theorem dX3_warmByDraw_11 : decode cX3_warmByDraw 11 = .ok (.ldc2_w 31, 3) := by decide +kernel
theorem dX3_warmByDraw_14 : decode cX3_warmByDraw 14 = .ok (.iload_n 0, 1) := by decide +kernel
theorem dX3_warmByDraw_15 : decode cX3_warmByDraw 15 = .ok (.i2l, 1) := by decide +kernel
theorem dX3_warmByDraw_16 : decode cX3_warmByDraw 16 = .ok (.lmul, 1) := by decide +kernel
theorem dX3_warmByDraw_17 : decode cX3_warmByDraw 17 = .ok (.ldc2_w 33, 3) := by decide +kernel
theorem dX3_warmByDraw_20 : decode cX3_warmByDraw 20 = .ok (.iload 4, 2) := by decide +kernel
theorem dX3_warmByDraw_22 : decode cX3_warmByDraw 22 = .ok (.i2l, 1) := by decide +kernel
theorem dX3_warmByDraw_23 : decode cX3_warmByDraw 23 = .ok (.lmul, 1) := by decide +kernel
theorem dX3_warmByDraw_24 : decode cX3_warmByDraw 24 = .ok (.ladd, 1) := by decide +kernel
theorem dX3_warmByDraw_25 : decode cX3_warmByDraw 25 = .ok (.lconst 1, 1) := by decide +kernel
theorem dX3_warmByDraw_26 : decode cX3_warmByDraw 26 = .ok (.ladd, 1) := by decide +kernel
theorem dX3_warmByDraw_27 : decode cX3_warmByDraw 27 = .ok (.lstore 5, 2) := by decide +kernel
theorem dX3_warmByDraw_29 : decode cX3_warmByDraw 29 = .ok (.lload 5, 2) := by decide +kernel
theorem dX3_warmByDraw_31 : decode cX3_warmByDraw 31 = .ok (.lload 5, 2) := by decide +kernel
theorem dX3_warmByDraw_33 : decode cX3_warmByDraw 33 = .ok (.lmul, 1) := by decide +kernel
theorem dX3_warmByDraw_34 : decode cX3_warmByDraw 34 = .ok (.ldc2_w 35, 3) := by decide +kernel
theorem dX3_warmByDraw_37 : decode cX3_warmByDraw 37 = .ok (.lrem, 1) := by decide +kernel
theorem dX3_warmByDraw_38 : decode cX3_warmByDraw 38 = .ok (.lstore 7, 2) := by decide +kernel
theorem dX3_warmByDraw_40 : decode cX3_warmByDraw 40 = .ok (.lload 7, 2) := by decide +kernel
theorem dX3_warmByDraw_42 : decode cX3_warmByDraw 42 = .ok (.ldc2_w 37, 3) := by decide +kernel
theorem dX3_warmByDraw_45 : decode cX3_warmByDraw 45 = .ok (.lrem, 1) := by decide +kernel
theorem dX3_warmByDraw_46 : decode cX3_warmByDraw 46 = .ok (.lconst 0, 1) := by decide +kernel
theorem dX3_warmByDraw_47 : decode cX3_warmByDraw 47 = .ok (.lcmp, 1) := by decide +kernel
theorem dX3_warmByDraw_48 : decode cX3_warmByDraw 48 = .ok (.ifCond .ne 10, 3) := by decide +kernel
theorem dX3_warmByDraw_51 : decode cX3_warmByDraw 51 = .ok (.lload_n 2, 1) := by decide +kernel
theorem dX3_warmByDraw_52 : decode cX3_warmByDraw 52 = .ok (.lconst 1, 1) := by decide +kernel
theorem dX3_warmByDraw_53 : decode cX3_warmByDraw 53 = .ok (.iload 4, 2) := by decide +kernel
theorem dX3_warmByDraw_55 : decode cX3_warmByDraw 55 = .ok (.lshl, 1) := by decide +kernel
theorem dX3_warmByDraw_56 : decode cX3_warmByDraw 56 = .ok (.lor, 1) := by decide +kernel
theorem dX3_warmByDraw_57 : decode cX3_warmByDraw 57 = .ok (.lstore_n 2, 1) := by decide +kernel
theorem dX3_warmByDraw_58 : decode cX3_warmByDraw 58 = .ok (.iinc 4 1, 3) := by decide +kernel
theorem dX3_warmByDraw_61 : decode cX3_warmByDraw 61 = .ok (.goto (-56), 3) := by decide +kernel
theorem dX3_warmByDraw_64 : decode cX3_warmByDraw 64 = .ok (.lload_n 2, 1) := by decide +kernel
theorem dX3_warmByDraw_65 : decode cX3_warmByDraw 65 = .ok (.lreturn, 1) := by decide +kernel
theorem dX4_init_0 : decode cX4_init 0 = .ok (.aload_n 0, 1) := by decide +kernel
theorem dX4_init_1 : decode cX4_init 1 = .ok (.invokespecial 3, 3) := by decide +kernel
theorem dX4_init_4 : decode cX4_init 4 = .ok (.aload_n 0, 1) := by decide +kernel
theorem dX4_init_5 : decode cX4_init 5 = .ok (.iconst 5, 1) := by decide +kernel
theorem dX4_init_6 : decode cX4_init 6 = .ok (.newarray .int, 2) := by decide +kernel
theorem dX4_init_8 : decode cX4_init 8 = .ok (.putfield 11, 3) := by decide +kernel
theorem dX4_init_11 : decode cX4_init 11 = .ok (.aload_n 0, 1) := by decide +kernel
theorem dX4_init_12 : decode cX4_init 12 = .ok (.bipush 25, 2) := by decide +kernel
theorem dX4_init_14 : decode cX4_init 14 = .ok (.newarray .int, 2) := by decide +kernel
theorem dX4_init_16 : decode cX4_init 16 = .ok (.putfield 15, 3) := by decide +kernel
theorem dX4_init_19 : decode cX4_init 19 = .ok (.aload_n 0, 1) := by decide +kernel
theorem dX4_init_20 : decode cX4_init 20 = .ok (.bipush 32, 2) := by decide +kernel
theorem dX4_init_22 : decode cX4_init 22 = .ok (.newarray .int, 2) := by decide +kernel
theorem dX4_init_24 : decode cX4_init 24 = .ok (.putfield 18, 3) := by decide +kernel
theorem dX4_init_27 : decode cX4_init 27 = .ok (.return_, 1) := by decide +kernel
theorem dX4_append_0 : decode cX4_append 0 = .ok (.aload_n 0, 1) := by decide +kernel
theorem dX4_append_1 : decode cX4_append 1 = .ok (.getfield 21, 3) := by decide +kernel
theorem dX4_append_4 : decode cX4_append 4 = .ok (.iconst 5, 1) := by decide +kernel
theorem dX4_append_5 : decode cX4_append 5 = .ok (.if_icmp .lt 5, 3) := by decide +kernel
theorem dX4_append_8 : decode cX4_append 8 = .ok (.iconst 0, 1) := by decide +kernel
theorem dX4_append_9 : decode cX4_append 9 = .ok (.ireturn, 1) := by decide +kernel
theorem dX4_append_10 : decode cX4_append 10 = .ok (.aload_n 0, 1) := by decide +kernel
theorem dX4_append_11 : decode cX4_append 11 = .ok (.getfield 11, 3) := by decide +kernel
theorem dX4_append_14 : decode cX4_append 14 = .ok (.aload_n 0, 1) := by decide +kernel
theorem dX4_append_15 : decode cX4_append 15 = .ok (.getfield 21, 3) := by decide +kernel
theorem dX4_append_18 : decode cX4_append 18 = .ok (.iload_n 1, 1) := by decide +kernel
theorem dX4_append_19 : decode cX4_append 19 = .ok (.iastore, 1) := by decide +kernel
theorem dX4_append_20 : decode cX4_append 20 = .ok (.aload_n 0, 1) := by decide +kernel
theorem dX4_append_21 : decode cX4_append 21 = .ok (.dup, 1) := by decide +kernel
theorem dX4_append_22 : decode cX4_append 22 = .ok (.getfield 21, 3) := by decide +kernel
theorem dX4_append_25 : decode cX4_append 25 = .ok (.iconst 1, 1) := by decide +kernel
theorem dX4_append_26 : decode cX4_append 26 = .ok (.iadd, 1) := by decide +kernel
theorem dX4_append_27 : decode cX4_append 27 = .ok (.putfield 21, 3) := by decide +kernel
theorem dX4_append_30 : decode cX4_append 30 = .ok (.iconst 1, 1) := by decide +kernel
theorem dX4_append_31 : decode cX4_append 31 = .ok (.ireturn, 1) := by decide +kernel
set_option maxRecDepth 20000 in
theorem ggX4_weigh_X3_afterOpen : GoodIn wsX4_weigh wsX3_afterOpen := goodIn_r _ [12, 13, 14, 11, 15, 16, 6, 7, 8, 17, 18, 19, 20, 21, 22, 23, 24, 25] (by decide +kernel) (by decide +kernel)
set_option maxRecDepth 20000 in
theorem gX4_weigh_X3_afterOpen : GoodIn wsX4_weigh (va_wsS RX4 25 yX3_afterOpen wsX3_afterOpen) := goodIn_app (goodIn_of _ (by decide +kernel)) ggX4_weigh_X3_afterOpen
set_option maxRecDepth 20000 in
theorem ggX4_weigh_X4_nextWith : GoodIn wsX4_weigh wsX4_nextWith := goodIn_r _ [30, 2, 4, 31, 32, 33, 34, 35, 36, 37, 38, 39, 40, 41] (by decide +kernel) (by decide +kernel)
set_option maxRecDepth 20000 in
theorem gX4_weigh_X4_nextWith : GoodIn wsX4_weigh (wsV RX4 31 RX4 yX4_nextWith wsX4_nextWith) := goodIn_app (goodIn_of _ (by decide +kernel)) ggX4_weigh_X4_nextWith
theorem dX4_weigh_0 : decode cX4_weigh 0 = .ok (.iconst 0, 1) := by decide +kernel
theorem dX4_weigh_1 : decode cX4_weigh 1 = .ok (.istore 4, 2) := by decide +kernel
theorem dX4_weigh_3 : decode cX4_weigh 3 = .ok (.iload 4, 2) := by decide +kernel
theorem dX4_weigh_5 : decode cX4_weigh 5 = .ok (.aload_n 0, 1) := by decide +kernel
theorem dX4_weigh_6 : decode cX4_weigh 6 = .ok (.getfield 21, 3) := by decide +kernel
theorem dX4_weigh_9 : decode cX4_weigh 9 = .ok (.if_icmp .ge 53, 3) := by decide +kernel
theorem dX4_weigh_12 : decode cX4_weigh 12 = .ok (.iconst 0, 1) := by decide +kernel
theorem dX4_weigh_13 : decode cX4_weigh 13 = .ok (.istore 5, 2) := by decide +kernel
theorem dX4_weigh_15 : decode cX4_weigh 15 = .ok (.iload 5, 2) := by decide +kernel
theorem dX4_weigh_17 : decode cX4_weigh 17 = .ok (.aload_n 0, 1) := by decide +kernel
theorem dX4_weigh_18 : decode cX4_weigh 18 = .ok (.getfield 21, 3) := by decide +kernel
theorem dX4_weigh_21 : decode cX4_weigh 21 = .ok (.if_icmp .ge 35, 3) := by decide +kernel
theorem dX4_weigh_24 : decode cX4_weigh 24 = .ok (.aload_n 0, 1) := by decide +kernel
theorem dX4_weigh_25 : decode cX4_weigh 25 = .ok (.getfield 15, 3) := by decide +kernel
theorem dX4_weigh_28 : decode cX4_weigh 28 = .ok (.iload 4, 2) := by decide +kernel
theorem dX4_weigh_30 : decode cX4_weigh 30 = .ok (.iconst 5, 1) := by decide +kernel
theorem dX4_weigh_31 : decode cX4_weigh 31 = .ok (.imul, 1) := by decide +kernel
theorem dX4_weigh_32 : decode cX4_weigh 32 = .ok (.iload 5, 2) := by decide +kernel
theorem dX4_weigh_34 : decode cX4_weigh 34 = .ok (.iadd, 1) := by decide +kernel
theorem dX4_weigh_35 : decode cX4_weigh 35 = .ok (.lload_n 1, 1) := by decide +kernel
theorem dX4_weigh_36 : decode cX4_weigh 36 = .ok (.iload_n 3, 1) := by decide +kernel
theorem dX4_weigh_37 : decode cX4_weigh 37 = .ok (.iload 5, 2) := by decide +kernel
theorem dX4_weigh_39 : decode cX4_weigh 39 = .ok (.aload_n 0, 1) := by decide +kernel
theorem dX4_weigh_40 : decode cX4_weigh 40 = .ok (.getfield 11, 3) := by decide +kernel
theorem dX4_weigh_43 : decode cX4_weigh 43 = .ok (.iload 4, 2) := by decide +kernel
theorem dX4_weigh_45 : decode cX4_weigh 45 = .ok (.iaload, 1) := by decide +kernel
theorem dX4_weigh_46 : decode cX4_weigh 46 = .ok (.invokestatic 25, 3) := by decide +kernel
theorem dX4_weigh_49 : decode cX4_weigh 49 = .ok (.iastore, 1) := by decide +kernel
theorem dX4_weigh_50 : decode cX4_weigh 50 = .ok (.iinc 5 1, 3) := by decide +kernel
theorem dX4_weigh_53 : decode cX4_weigh 53 = .ok (.goto (-38), 3) := by decide +kernel
theorem dX4_weigh_56 : decode cX4_weigh 56 = .ok (.iinc 4 1, 3) := by decide +kernel
theorem dX4_weigh_59 : decode cX4_weigh 59 = .ok (.goto (-56), 3) := by decide +kernel
theorem dX4_weigh_62 : decode cX4_weigh 62 = .ok (.iconst 1, 1) := by decide +kernel
theorem dX4_weigh_63 : decode cX4_weigh 63 = .ok (.aload_n 0, 1) := by decide +kernel
theorem dX4_weigh_64 : decode cX4_weigh 64 = .ok (.getfield 21, 3) := by decide +kernel
theorem dX4_weigh_67 : decode cX4_weigh 67 = .ok (.ishl, 1) := by decide +kernel
theorem dX4_weigh_68 : decode cX4_weigh 68 = .ok (.iconst 1, 1) := by decide +kernel
theorem dX4_weigh_69 : decode cX4_weigh 69 = .ok (.isub, 1) := by decide +kernel
theorem dX4_weigh_70 : decode cX4_weigh 70 = .ok (.istore 4, 2) := by decide +kernel
theorem dX4_weigh_72 : decode cX4_weigh 72 = .ok (.aload_n 0, 1) := by decide +kernel
theorem dX4_weigh_73 : decode cX4_weigh 73 = .ok (.getfield 18, 3) := by decide +kernel
theorem dX4_weigh_76 : decode cX4_weigh 76 = .ok (.iload 4, 2) := by decide +kernel
theorem dX4_weigh_78 : decode cX4_weigh 78 = .ok (.iconst 0, 1) := by decide +kernel
theorem dX4_weigh_79 : decode cX4_weigh 79 = .ok (.iastore, 1) := by decide +kernel
theorem dX4_weigh_80 : decode cX4_weigh 80 = .ok (.iload 4, 2) := by decide +kernel
theorem dX4_weigh_82 : decode cX4_weigh 82 = .ok (.iconst 1, 1) := by decide +kernel
theorem dX4_weigh_83 : decode cX4_weigh 83 = .ok (.isub, 1) := by decide +kernel
theorem dX4_weigh_84 : decode cX4_weigh 84 = .ok (.istore 5, 2) := by decide +kernel
theorem dX4_weigh_86 : decode cX4_weigh 86 = .ok (.iload 5, 2) := by decide +kernel
theorem dX4_weigh_88 : decode cX4_weigh 88 = .ok (.ifCond .lt 70, 3) := by decide +kernel
theorem dX4_weigh_91 : decode cX4_weigh 91 = .ok (.aload_n 0, 1) := by decide +kernel
theorem dX4_weigh_92 : decode cX4_weigh 92 = .ok (.getfield 18, 3) := by decide +kernel
theorem dX4_weigh_95 : decode cX4_weigh 95 = .ok (.iload 5, 2) := by decide +kernel
theorem dX4_weigh_97 : decode cX4_weigh 97 = .ok (.iconst 0, 1) := by decide +kernel
theorem dX4_weigh_98 : decode cX4_weigh 98 = .ok (.iastore, 1) := by decide +kernel
theorem dX4_weigh_99 : decode cX4_weigh 99 = .ok (.iconst 0, 1) := by decide +kernel
theorem dX4_weigh_100 : decode cX4_weigh 100 = .ok (.istore 6, 2) := by decide +kernel
theorem dX4_weigh_102 : decode cX4_weigh 102 = .ok (.iload 6, 2) := by decide +kernel
theorem dX4_weigh_104 : decode cX4_weigh 104 = .ok (.aload_n 0, 1) := by decide +kernel
theorem dX4_weigh_105 : decode cX4_weigh 105 = .ok (.getfield 21, 3) := by decide +kernel
theorem dX4_weigh_108 : decode cX4_weigh 108 = .ok (.if_icmp .ge 44, 3) := by decide +kernel
theorem dX4_weigh_111 : decode cX4_weigh 111 = .ok (.iload 5, 2) := by decide +kernel
theorem dX4_weigh_113 : decode cX4_weigh 113 = .ok (.iload 6, 2) := by decide +kernel
theorem dX4_weigh_115 : decode cX4_weigh 115 = .ok (.ishr, 1) := by decide +kernel
theorem dX4_weigh_116 : decode cX4_weigh 116 = .ok (.iconst 1, 1) := by decide +kernel
theorem dX4_weigh_117 : decode cX4_weigh 117 = .ok (.iand, 1) := by decide +kernel
theorem dX4_weigh_118 : decode cX4_weigh 118 = .ok (.ifCond .ne 28, 3) := by decide +kernel
theorem dX4_weigh_121 : decode cX4_weigh 121 = .ok (.aload_n 0, 1) := by decide +kernel
theorem dX4_weigh_122 : decode cX4_weigh 122 = .ok (.getfield 18, 3) := by decide +kernel
theorem dX4_weigh_125 : decode cX4_weigh 125 = .ok (.iload 5, 2) := by decide +kernel
theorem dX4_weigh_127 : decode cX4_weigh 127 = .ok (.aload_n 0, 1) := by decide +kernel
theorem dX4_weigh_128 : decode cX4_weigh 128 = .ok (.getfield 18, 3) := by decide +kernel
theorem dX4_weigh_131 : decode cX4_weigh 131 = .ok (.iload 5, 2) := by decide +kernel
theorem dX4_weigh_133 : decode cX4_weigh 133 = .ok (.iaload, 1) := by decide +kernel
theorem dX4_weigh_134 : decode cX4_weigh 134 = .ok (.aload_n 0, 1) := by decide +kernel
theorem dX4_weigh_135 : decode cX4_weigh 135 = .ok (.iload 5, 2) := by decide +kernel
theorem dX4_weigh_137 : decode cX4_weigh 137 = .ok (.iload 6, 2) := by decide +kernel
theorem dX4_weigh_139 : decode cX4_weigh 139 = .ok (.invokevirtual 31, 3) := by decide +kernel
theorem dX4_weigh_142 : decode cX4_weigh 142 = .ok (.invokestatic 35, 3) := by decide +kernel
theorem dX4_weigh_145 : decode cX4_weigh 145 = .ok (.iastore, 1) := by decide +kernel
theorem dX4_weigh_146 : decode cX4_weigh 146 = .ok (.iinc 6 1, 3) := by decide +kernel
theorem dX4_weigh_149 : decode cX4_weigh 149 = .ok (.goto (-47), 3) := by decide +kernel
theorem dX4_weigh_152 : decode cX4_weigh 152 = .ok (.iinc 5 (-1), 3) := by decide +kernel
theorem dX4_weigh_155 : decode cX4_weigh 155 = .ok (.goto (-69), 3) := by decide +kernel
theorem dX4_weigh_158 : decode cX4_weigh 158 = .ok (.return_, 1) := by decide +kernel
set_option maxRecDepth 20000 in
theorem ggX4_nextWith_J6_bitCount_0f7a4 : GoodIn wsX4_nextWith wsJ6_bitCount_0f7a4 := goodIn_r _ [6, 7, 8, 9] (by decide +kernel) (by decide +kernel)
set_option maxRecDepth 20000 in
theorem gX4_nextWith_J6_bitCount_0f7a4 : GoodIn wsX4_nextWith (va_wsS RX4 40 yJ6_bitCount_0f7a4 wsJ6_bitCount_0f7a4) := goodIn_app (goodIn_of _ (by decide +kernel)) ggX4_nextWith_J6_bitCount_0f7a4
theorem dX4_nextWith_0 : decode cX4_nextWith 0 = .ok (.iload_n 1, 1) := by decide +kernel
theorem dX4_nextWith_1 : decode cX4_nextWith 1 = .ok (.invokestatic 40, 3) := by decide +kernel
theorem dX4_nextWith_4 : decode cX4_nextWith 4 = .ok (.istore_n 3, 1) := by decide +kernel
theorem dX4_nextWith_5 : decode cX4_nextWith 5 = .ok (.aload_n 0, 1) := by decide +kernel
theorem dX4_nextWith_6 : decode cX4_nextWith 6 = .ok (.getfield 15, 3) := by decide +kernel
theorem dX4_nextWith_9 : decode cX4_nextWith 9 = .ok (.iload_n 2, 1) := by decide +kernel
theorem dX4_nextWith_10 : decode cX4_nextWith 10 = .ok (.iconst 5, 1) := by decide +kernel
theorem dX4_nextWith_11 : decode cX4_nextWith 11 = .ok (.imul, 1) := by decide +kernel
theorem dX4_nextWith_12 : decode cX4_nextWith 12 = .ok (.iload_n 3, 1) := by decide +kernel
theorem dX4_nextWith_13 : decode cX4_nextWith 13 = .ok (.iadd, 1) := by decide +kernel
theorem dX4_nextWith_14 : decode cX4_nextWith 14 = .ok (.iaload, 1) := by decide +kernel
theorem dX4_nextWith_15 : decode cX4_nextWith 15 = .ok (.aload_n 0, 1) := by decide +kernel
theorem dX4_nextWith_16 : decode cX4_nextWith 16 = .ok (.getfield 18, 3) := by decide +kernel
theorem dX4_nextWith_19 : decode cX4_nextWith 19 = .ok (.iload_n 1, 1) := by decide +kernel
theorem dX4_nextWith_20 : decode cX4_nextWith 20 = .ok (.iconst 1, 1) := by decide +kernel
theorem dX4_nextWith_21 : decode cX4_nextWith 21 = .ok (.iload_n 2, 1) := by decide +kernel
theorem dX4_nextWith_22 : decode cX4_nextWith 22 = .ok (.ishl, 1) := by decide +kernel
theorem dX4_nextWith_23 : decode cX4_nextWith 23 = .ok (.ior, 1) := by decide +kernel
theorem dX4_nextWith_24 : decode cX4_nextWith 24 = .ok (.iaload, 1) := by decide +kernel
theorem dX4_nextWith_25 : decode cX4_nextWith 25 = .ok (.iadd, 1) := by decide +kernel
theorem dX4_nextWith_26 : decode cX4_nextWith 26 = .ok (.ireturn, 1) := by decide +kernel
theorem dX4_mostThrough_0 : decode cX4_mostThrough 0 = .ok (.aload_n 0, 1) := by decide +kernel
theorem dX4_mostThrough_1 : decode cX4_mostThrough 1 = .ok (.getfield 18, 3) := by decide +kernel
theorem dX4_mostThrough_4 : decode cX4_mostThrough 4 = .ok (.iconst 0, 1) := by decide +kernel
theorem dX4_mostThrough_5 : decode cX4_mostThrough 5 = .ok (.iaload, 1) := by decide +kernel
theorem dX4_mostThrough_6 : decode cX4_mostThrough 6 = .ok (.ireturn, 1) := by decide +kernel
set_option maxRecDepth 20000 in
theorem ggX4_loadInTurn_X4_firstBest : GoodIn wsX4_loadInTurn wsX4_firstBest := goodIn_r _ [6, 1, 7, 8, 9, 10, 5, 11, 12, 13, 14, 15, 16, 17, 18, 19, 20, 21, 22, 23] (by decide +kernel) (by decide +kernel)
set_option maxRecDepth 20000 in
theorem gX4_loadInTurn_X4_firstBest : GoodIn wsX4_loadInTurn (wsV RX4 46 RX4 yX4_firstBest wsX4_firstBest) := goodIn_app (goodIn_of _ (by decide +kernel)) ggX4_loadInTurn_X4_firstBest
theorem dX4_loadInTurn_0 : decode cX4_loadInTurn 0 = .ok (.iconst 0, 1) := by decide +kernel
theorem dX4_loadInTurn_1 : decode cX4_loadInTurn 1 = .ok (.istore_n 2, 1) := by decide +kernel
theorem dX4_loadInTurn_2 : decode cX4_loadInTurn 2 = .ok (.iconst (-1), 1) := by decide +kernel
theorem dX4_loadInTurn_3 : decode cX4_loadInTurn 3 = .ok (.istore_n 3, 1) := by decide +kernel
theorem dX4_loadInTurn_4 : decode cX4_loadInTurn 4 = .ok (.iconst 0, 1) := by decide +kernel
theorem dX4_loadInTurn_5 : decode cX4_loadInTurn 5 = .ok (.istore 4, 2) := by decide +kernel
theorem dX4_loadInTurn_7 : decode cX4_loadInTurn 7 = .ok (.iload 4, 2) := by decide +kernel
theorem dX4_loadInTurn_9 : decode cX4_loadInTurn 9 = .ok (.iload_n 1, 1) := by decide +kernel
theorem dX4_loadInTurn_10 : decode cX4_loadInTurn 10 = .ok (.if_icmp .gt 37, 3) := by decide +kernel
theorem dX4_loadInTurn_13 : decode cX4_loadInTurn 13 = .ok (.iload 4, 2) := by decide +kernel
theorem dX4_loadInTurn_15 : decode cX4_loadInTurn 15 = .ok (.aload_n 0, 1) := by decide +kernel
theorem dX4_loadInTurn_16 : decode cX4_loadInTurn 16 = .ok (.getfield 21, 3) := by decide +kernel
theorem dX4_loadInTurn_19 : decode cX4_loadInTurn 19 = .ok (.if_icmp .ge 28, 3) := by decide +kernel
theorem dX4_loadInTurn_22 : decode cX4_loadInTurn 22 = .ok (.aload_n 0, 1) := by decide +kernel
theorem dX4_loadInTurn_23 : decode cX4_loadInTurn 23 = .ok (.iload_n 2, 1) := by decide +kernel
theorem dX4_loadInTurn_24 : decode cX4_loadInTurn 24 = .ok (.invokevirtual 46, 3) := by decide +kernel
theorem dX4_loadInTurn_27 : decode cX4_loadInTurn 27 = .ok (.istore_n 3, 1) := by decide +kernel
theorem dX4_loadInTurn_28 : decode cX4_loadInTurn 28 = .ok (.iload_n 3, 1) := by decide +kernel
theorem dX4_loadInTurn_29 : decode cX4_loadInTurn 29 = .ok (.iconst (-1), 1) := by decide +kernel
theorem dX4_loadInTurn_30 : decode cX4_loadInTurn 30 = .ok (.if_icmp .ne 5, 3) := by decide +kernel
theorem dX4_loadInTurn_33 : decode cX4_loadInTurn 33 = .ok (.iconst (-1), 1) := by decide +kernel
theorem dX4_loadInTurn_34 : decode cX4_loadInTurn 34 = .ok (.ireturn, 1) := by decide +kernel
theorem dX4_loadInTurn_35 : decode cX4_loadInTurn 35 = .ok (.iload_n 2, 1) := by decide +kernel
theorem dX4_loadInTurn_36 : decode cX4_loadInTurn 36 = .ok (.iconst 1, 1) := by decide +kernel
theorem dX4_loadInTurn_37 : decode cX4_loadInTurn 37 = .ok (.iload_n 3, 1) := by decide +kernel
theorem dX4_loadInTurn_38 : decode cX4_loadInTurn 38 = .ok (.ishl, 1) := by decide +kernel
theorem dX4_loadInTurn_39 : decode cX4_loadInTurn 39 = .ok (.ior, 1) := by decide +kernel
theorem dX4_loadInTurn_40 : decode cX4_loadInTurn 40 = .ok (.istore_n 2, 1) := by decide +kernel
theorem dX4_loadInTurn_41 : decode cX4_loadInTurn 41 = .ok (.iinc 4 1, 3) := by decide +kernel
theorem dX4_loadInTurn_44 : decode cX4_loadInTurn 44 = .ok (.goto (-37), 3) := by decide +kernel
theorem dX4_loadInTurn_47 : decode cX4_loadInTurn 47 = .ok (.iload_n 3, 1) := by decide +kernel
theorem dX4_loadInTurn_48 : decode cX4_loadInTurn 48 = .ok (.ireturn, 1) := by decide +kernel
set_option maxRecDepth 20000 in
theorem ggX4_firstBest_X4_nextWith : GoodIn wsX4_firstBest wsX4_nextWith := goodIn_r _ [7, 8, 2, 9, 10, 11, 12, 13, 14, 15, 16, 17, 18, 19] (by decide +kernel) (by decide +kernel)
set_option maxRecDepth 20000 in
theorem gX4_firstBest_X4_nextWith : GoodIn wsX4_firstBest (wsV RX4 31 RX4 yX4_nextWith wsX4_nextWith) := goodIn_app (goodIn_of _ (by decide +kernel)) ggX4_firstBest_X4_nextWith
theorem dX4_firstBest_0 : decode cX4_firstBest 0 = .ok (.iconst 0, 1) := by decide +kernel
theorem dX4_firstBest_1 : decode cX4_firstBest 1 = .ok (.istore_n 2, 1) := by decide +kernel
theorem dX4_firstBest_2 : decode cX4_firstBest 2 = .ok (.iload_n 2, 1) := by decide +kernel
theorem dX4_firstBest_3 : decode cX4_firstBest 3 = .ok (.aload_n 0, 1) := by decide +kernel
theorem dX4_firstBest_4 : decode cX4_firstBest 4 = .ok (.getfield 21, 3) := by decide +kernel
theorem dX4_firstBest_7 : decode cX4_firstBest 7 = .ok (.if_icmp .ge 34, 3) := by decide +kernel
theorem dX4_firstBest_10 : decode cX4_firstBest 10 = .ok (.iload_n 1, 1) := by decide +kernel
theorem dX4_firstBest_11 : decode cX4_firstBest 11 = .ok (.iload_n 2, 1) := by decide +kernel
theorem dX4_firstBest_12 : decode cX4_firstBest 12 = .ok (.ishr, 1) := by decide +kernel
theorem dX4_firstBest_13 : decode cX4_firstBest 13 = .ok (.iconst 1, 1) := by decide +kernel
theorem dX4_firstBest_14 : decode cX4_firstBest 14 = .ok (.iand, 1) := by decide +kernel
theorem dX4_firstBest_15 : decode cX4_firstBest 15 = .ok (.ifCond .ne 20, 3) := by decide +kernel
theorem dX4_firstBest_18 : decode cX4_firstBest 18 = .ok (.aload_n 0, 1) := by decide +kernel
theorem dX4_firstBest_19 : decode cX4_firstBest 19 = .ok (.iload_n 1, 1) := by decide +kernel
theorem dX4_firstBest_20 : decode cX4_firstBest 20 = .ok (.iload_n 2, 1) := by decide +kernel
theorem dX4_firstBest_21 : decode cX4_firstBest 21 = .ok (.invokevirtual 31, 3) := by decide +kernel
theorem dX4_firstBest_24 : decode cX4_firstBest 24 = .ok (.aload_n 0, 1) := by decide +kernel
theorem dX4_firstBest_25 : decode cX4_firstBest 25 = .ok (.getfield 18, 3) := by decide +kernel
theorem dX4_firstBest_28 : decode cX4_firstBest 28 = .ok (.iload_n 1, 1) := by decide +kernel
theorem dX4_firstBest_29 : decode cX4_firstBest 29 = .ok (.iaload, 1) := by decide +kernel
theorem dX4_firstBest_30 : decode cX4_firstBest 30 = .ok (.if_icmp .ne 5, 3) := by decide +kernel
theorem dX4_firstBest_33 : decode cX4_firstBest 33 = .ok (.iload_n 2, 1) := by decide +kernel
theorem dX4_firstBest_34 : decode cX4_firstBest 34 = .ok (.ireturn, 1) := by decide +kernel
theorem dX4_firstBest_35 : decode cX4_firstBest 35 = .ok (.iinc 2 1, 3) := by decide +kernel
theorem dX4_firstBest_38 : decode cX4_firstBest 38 = .ok (.goto (-36), 3) := by decide +kernel
theorem dX4_firstBest_41 : decode cX4_firstBest 41 = .ok (.iconst (-1), 1) := by decide +kernel
theorem dX4_firstBest_42 : decode cX4_firstBest 42 = .ok (.ireturn, 1) := by decide +kernel
theorem dX5_init_0 : decode cX5_init 0 = .ok (.aload_n 0, 1) := by decide +kernel
theorem dX5_init_1 : decode cX5_init 1 = .ok (.invokespecial 3, 3) := by decide +kernel
theorem dX5_init_4 : decode cX5_init 4 = .ok (.aload_n 0, 1) := by decide +kernel
theorem dX5_init_5 : decode cX5_init 5 = .ok (.sipush 700, 3) := by decide +kernel
theorem dX5_init_8 : decode cX5_init 8 = .ok (.newarray .long, 2) := by decide +kernel
theorem dX5_init_10 : decode cX5_init 10 = .ok (.putfield 13, 3) := by decide +kernel
theorem dX5_init_13 : decode cX5_init 13 = .ok (.return_, 1) := by decide +kernel
set_option maxRecDepth 20000 in
theorem ggX5_clear_J7_fill_d0a16 : GoodIn wsX5_clear wsJ7_fill_d0a16 := goodIn_r _ [5] (by decide +kernel) (by decide +kernel)
set_option maxRecDepth 20000 in
theorem gX5_clear_J7_fill_d0a16 : GoodIn wsX5_clear (va_wsS RX5 17 yJ7_fill_d0a16 wsJ7_fill_d0a16) := goodIn_app (goodIn_of _ (by decide +kernel)) ggX5_clear_J7_fill_d0a16
theorem dX5_clear_0 : decode cX5_clear 0 = .ok (.aload_n 0, 1) := by decide +kernel
theorem dX5_clear_1 : decode cX5_clear 1 = .ok (.getfield 13, 3) := by decide +kernel
theorem dX5_clear_4 : decode cX5_clear 4 = .ok (.lconst 0, 1) := by decide +kernel
theorem dX5_clear_5 : decode cX5_clear 5 = .ok (.invokestatic 17, 3) := by decide +kernel
theorem dX5_clear_8 : decode cX5_clear 8 = .ok (.return_, 1) := by decide +kernel
theorem dX5_mark_0 : decode cX5_mark 0 = .ok (.aload_n 0, 1) := by decide +kernel
theorem dX5_mark_1 : decode cX5_mark 1 = .ok (.getfield 13, 3) := by decide +kernel
theorem dX5_mark_4 : decode cX5_mark 4 = .ok (.iload_n 1, 1) := by decide +kernel
theorem dX5_mark_5 : decode cX5_mark 5 = .ok (.bipush 100, 2) := by decide +kernel
theorem dX5_mark_7 : decode cX5_mark 7 = .ok (.imul, 1) := by decide +kernel
theorem dX5_mark_8 : decode cX5_mark 8 = .ok (.iload_n 3, 1) := by decide +kernel
theorem dX5_mark_9 : decode cX5_mark 9 = .ok (.iadd, 1) := by decide +kernel
theorem dX5_mark_10 : decode cX5_mark 10 = .ok (.dup2, 1) := by decide +kernel
theorem dX5_mark_11 : decode cX5_mark 11 = .ok (.laload, 1) := by decide +kernel
theorem dX5_mark_12 : decode cX5_mark 12 = .ok (.lconst 1, 1) := by decide +kernel
theorem dX5_mark_13 : decode cX5_mark 13 = .ok (.iload_n 2, 1) := by decide +kernel
theorem dX5_mark_14 : decode cX5_mark 14 = .ok (.lshl, 1) := by decide +kernel
theorem dX5_mark_15 : decode cX5_mark 15 = .ok (.lor, 1) := by decide +kernel
theorem dX5_mark_16 : decode cX5_mark 16 = .ok (.lastore, 1) := by decide +kernel
theorem dX5_mark_17 : decode cX5_mark 17 = .ok (.return_, 1) := by decide +kernel
set_option maxRecDepth 20000 in
theorem ggX5_spread_X5_isAnywhere : GoodIn wsX5_spread wsX5_isAnywhere := goodIn_r _ [7, 2, 70] (by decide +kernel) (by decide +kernel)
set_option maxRecDepth 20000 in
theorem gX5_spread_X5_isAnywhere : GoodIn wsX5_spread (wsV RX5 23 RX5 yX5_isAnywhere wsX5_isAnywhere) := goodIn_app (goodIn_of _ (by decide +kernel)) ggX5_spread_X5_isAnywhere
set_option maxRecDepth 20000 in
theorem ggX5_spread_X5_leave : GoodIn wsX5_spread wsX5_leave := goodIn_r _ [11, 12, 13, 14, 15, 16, 17, 18, 19, 20, 21, 22, 23, 24, 25, 26, 27, 28, 29, 30, 31, 32, 33, 34, 35, 36, 37, 38, 39, 40, 6, 41, 2, 42, 43, 44, 45, 46, 47, 48, 49, 50, 51, 52, 53, 54, 55, 56, 57, 58, 59, 60, 61, 62, 63, 64, 65, 66, 67, 68, 69, 70] (by decide +kernel) (by decide +kernel)
set_option maxRecDepth 20000 in
theorem gX5_spread_X5_leave : GoodIn wsX5_spread (wsV RX5 31 RX5 yX5_leave wsX5_leave) := goodIn_app (goodIn_of _ (by decide +kernel)) ggX5_spread_X5_leave
theorem dX5_spread_0 : decode cX5_spread 0 = .ok (.bipush 99, 2) := by decide +kernel
theorem dX5_spread_2 : decode cX5_spread 2 = .ok (.istore 4, 2) := by decide +kernel
theorem dX5_spread_4 : decode cX5_spread 4 = .ok (.iload 4, 2) := by decide +kernel
theorem dX5_spread_6 : decode cX5_spread 6 = .ok (.ifCond .lt 91, 3) := by decide +kernel
theorem dX5_spread_9 : decode cX5_spread 9 = .ok (.aload_n 0, 1) := by decide +kernel
theorem dX5_spread_10 : decode cX5_spread 10 = .ok (.iload 4, 2) := by decide +kernel
theorem dX5_spread_12 : decode cX5_spread 12 = .ok (.invokevirtual 23, 3) := by decide +kernel
theorem dX5_spread_15 : decode cX5_spread 15 = .ok (.ifCond .ne 6, 3) := by decide +kernel
theorem dX5_spread_18 : decode cX5_spread 18 = .ok (.goto 73, 3) := by decide +kernel
theorem dX5_spread_21 : decode cX5_spread 21 = .ok (.iconst 0, 1) := by decide +kernel
theorem dX5_spread_22 : decode cX5_spread 22 = .ok (.istore 5, 2) := by decide +kernel
theorem dX5_spread_24 : decode cX5_spread 24 = .ok (.iload 5, 2) := by decide +kernel
theorem dX5_spread_26 : decode cX5_spread 26 = .ok (.bipush 48, 2) := by decide +kernel
theorem dX5_spread_28 : decode cX5_spread 28 = .ok (.if_icmp .ge 63, 3) := by decide +kernel
theorem dX5_spread_31 : decode cX5_spread 31 = .ok (.iconst 0, 1) := by decide +kernel
theorem dX5_spread_32 : decode cX5_spread 32 = .ok (.istore 6, 2) := by decide +kernel
theorem dX5_spread_34 : decode cX5_spread 34 = .ok (.iload 6, 2) := by decide +kernel
theorem dX5_spread_36 : decode cX5_spread 36 = .ok (.aload_n 1, 1) := by decide +kernel
theorem dX5_spread_37 : decode cX5_spread 37 = .ok (.getfield 27, 3) := by decide +kernel
theorem dX5_spread_40 : decode cX5_spread 40 = .ok (.if_icmp .ge 45, 3) := by decide +kernel
theorem dX5_spread_43 : decode cX5_spread 43 = .ok (.aload_n 0, 1) := by decide +kernel
theorem dX5_spread_44 : decode cX5_spread 44 = .ok (.getfield 13, 3) := by decide +kernel
theorem dX5_spread_47 : decode cX5_spread 47 = .ok (.iload 6, 2) := by decide +kernel
theorem dX5_spread_49 : decode cX5_spread 49 = .ok (.bipush 100, 2) := by decide +kernel
theorem dX5_spread_51 : decode cX5_spread 51 = .ok (.imul, 1) := by decide +kernel
theorem dX5_spread_52 : decode cX5_spread 52 = .ok (.iload 4, 2) := by decide +kernel
theorem dX5_spread_54 : decode cX5_spread 54 = .ok (.iadd, 1) := by decide +kernel
theorem dX5_spread_55 : decode cX5_spread 55 = .ok (.laload, 1) := by decide +kernel
theorem dX5_spread_56 : decode cX5_spread 56 = .ok (.iload 5, 2) := by decide +kernel
theorem dX5_spread_58 : decode cX5_spread 58 = .ok (.lshr, 1) := by decide +kernel
theorem dX5_spread_59 : decode cX5_spread 59 = .ok (.lconst 1, 1) := by decide +kernel
theorem dX5_spread_60 : decode cX5_spread 60 = .ok (.land, 1) := by decide +kernel
theorem dX5_spread_61 : decode cX5_spread 61 = .ok (.lconst 0, 1) := by decide +kernel
theorem dX5_spread_62 : decode cX5_spread 62 = .ok (.lcmp, 1) := by decide +kernel
theorem dX5_spread_63 : decode cX5_spread 63 = .ok (.ifCond .eq 16, 3) := by decide +kernel
theorem dX5_spread_66 : decode cX5_spread 66 = .ok (.aload_n 0, 1) := by decide +kernel
theorem dX5_spread_67 : decode cX5_spread 67 = .ok (.aload_n 1, 1) := by decide +kernel
theorem dX5_spread_68 : decode cX5_spread 68 = .ok (.iload 6, 2) := by decide +kernel
theorem dX5_spread_70 : decode cX5_spread 70 = .ok (.iload 5, 2) := by decide +kernel
theorem dX5_spread_72 : decode cX5_spread 72 = .ok (.iload 4, 2) := by decide +kernel
theorem dX5_spread_74 : decode cX5_spread 74 = .ok (.iload_n 2, 1) := by decide +kernel
theorem dX5_spread_75 : decode cX5_spread 75 = .ok (.iload_n 3, 1) := by decide +kernel
theorem dX5_spread_76 : decode cX5_spread 76 = .ok (.invokevirtual 31, 3) := by decide +kernel
theorem dX5_spread_79 : decode cX5_spread 79 = .ok (.iinc 6 1, 3) := by decide +kernel
theorem dX5_spread_82 : decode cX5_spread 82 = .ok (.goto (-48), 3) := by decide +kernel
theorem dX5_spread_85 : decode cX5_spread 85 = .ok (.iinc 5 1, 3) := by decide +kernel
theorem dX5_spread_88 : decode cX5_spread 88 = .ok (.goto (-64), 3) := by decide +kernel
theorem dX5_spread_91 : decode cX5_spread 91 = .ok (.iinc 4 (-1), 3) := by decide +kernel
theorem dX5_spread_94 : decode cX5_spread 94 = .ok (.goto (-90), 3) := by decide +kernel
theorem dX5_spread_97 : decode cX5_spread 97 = .ok (.return_, 1) := by decide +kernel
theorem dX5_isAnywhere_0 : decode cX5_isAnywhere 0 = .ok (.lconst 0, 1) := by decide +kernel
theorem dX5_isAnywhere_1 : decode cX5_isAnywhere 1 = .ok (.lstore_n 2, 1) := by decide +kernel
theorem dX5_isAnywhere_2 : decode cX5_isAnywhere 2 = .ok (.iconst 0, 1) := by decide +kernel
theorem dX5_isAnywhere_3 : decode cX5_isAnywhere 3 = .ok (.istore 4, 2) := by decide +kernel
theorem dX5_isAnywhere_5 : decode cX5_isAnywhere 5 = .ok (.iload 4, 2) := by decide +kernel
theorem dX5_isAnywhere_7 : decode cX5_isAnywhere 7 = .ok (.bipush 7, 2) := by decide +kernel
theorem dX5_isAnywhere_9 : decode cX5_isAnywhere 9 = .ok (.if_icmp .ge 24, 3) := by decide +kernel
theorem dX5_isAnywhere_12 : decode cX5_isAnywhere 12 = .ok (.lload_n 2, 1) := by decide +kernel
theorem dX5_isAnywhere_13 : decode cX5_isAnywhere 13 = .ok (.aload_n 0, 1) := by decide +kernel
theorem dX5_isAnywhere_14 : decode cX5_isAnywhere 14 = .ok (.getfield 13, 3) := by decide +kernel
theorem dX5_isAnywhere_17 : decode cX5_isAnywhere 17 = .ok (.iload 4, 2) := by decide +kernel
theorem dX5_isAnywhere_19 : decode cX5_isAnywhere 19 = .ok (.bipush 100, 2) := by decide +kernel
theorem dX5_isAnywhere_21 : decode cX5_isAnywhere 21 = .ok (.imul, 1) := by decide +kernel
theorem dX5_isAnywhere_22 : decode cX5_isAnywhere 22 = .ok (.iload_n 1, 1) := by decide +kernel
theorem dX5_isAnywhere_23 : decode cX5_isAnywhere 23 = .ok (.iadd, 1) := by decide +kernel
theorem dX5_isAnywhere_24 : decode cX5_isAnywhere 24 = .ok (.laload, 1) := by decide +kernel
theorem dX5_isAnywhere_25 : decode cX5_isAnywhere 25 = .ok (.lor, 1) := by decide +kernel
theorem dX5_isAnywhere_26 : decode cX5_isAnywhere 26 = .ok (.lstore_n 2, 1) := by decide +kernel
theorem dX5_isAnywhere_27 : decode cX5_isAnywhere 27 = .ok (.iinc 4 1, 3) := by decide +kernel
theorem dX5_isAnywhere_30 : decode cX5_isAnywhere 30 = .ok (.goto (-25), 3) := by decide +kernel
theorem dX5_isAnywhere_33 : decode cX5_isAnywhere 33 = .ok (.lload_n 2, 1) := by decide +kernel
theorem dX5_isAnywhere_34 : decode cX5_isAnywhere 34 = .ok (.lconst 0, 1) := by decide +kernel
theorem dX5_isAnywhere_35 : decode cX5_isAnywhere 35 = .ok (.lcmp, 1) := by decide +kernel
theorem dX5_isAnywhere_36 : decode cX5_isAnywhere 36 = .ok (.ifCond .eq 7, 3) := by decide +kernel
theorem dX5_isAnywhere_39 : decode cX5_isAnywhere 39 = .ok (.iconst 1, 1) := by decide +kernel
theorem dX5_isAnywhere_40 : decode cX5_isAnywhere 40 = .ok (.goto 4, 3) := by decide +kernel
theorem dX5_isAnywhere_43 : decode cX5_isAnywhere 43 = .ok (.iconst 0, 1) := by decide +kernel
theorem dX5_isAnywhere_44 : decode cX5_isAnywhere 44 = .ok (.ireturn, 1) := by decide +kernel
set_option maxRecDepth 20000 in
theorem ggX5_leave_X1_afterHourIn : GoodIn wsX5_leave wsX1_afterHourIn := goodIn_r _ [7, 8, 9, 10, 11, 12, 13, 14, 15, 16, 17, 18, 19, 20, 21, 22, 23, 24, 25, 26, 49, 50, 51, 52, 53, 54, 55, 56, 57, 58, 59, 60] (by decide +kernel) (by decide +kernel)
set_option maxRecDepth 20000 in
theorem gX5_leave_X1_afterHourIn : GoodIn wsX5_leave (wsV RX5 35 RX1 yX1_afterHourIn wsX1_afterHourIn) := goodIn_app (goodIn_of _ (by decide +kernel)) ggX5_leave_X1_afterHourIn
set_option maxRecDepth 20000 in
theorem ggX5_leave_X5_mark : GoodIn wsX5_leave wsX5_mark := goodIn_r _ [31, 32, 61] (by decide +kernel) (by decide +kernel)
set_option maxRecDepth 20000 in
theorem gX5_leave_X5_mark : GoodIn wsX5_leave (wsV RX5 39 RX5 yX5_mark wsX5_mark) := goodIn_app (goodIn_of _ (by decide +kernel)) ggX5_leave_X5_mark
set_option maxRecDepth 20000 in
theorem ggX5_leave_X1_touches : GoodIn wsX5_leave wsX1_touches := goodIn_r _ [36, 37, 38, 49, 50, 51, 52, 53, 54, 55, 56, 57, 58, 59, 60] (by decide +kernel) (by decide +kernel)
set_option maxRecDepth 20000 in
theorem gX5_leave_X1_touches : GoodIn wsX5_leave (wsV RX5 50 RX1 yX1_touches wsX1_touches) := goodIn_app (goodIn_of _ (by decide +kernel)) ggX5_leave_X1_touches
set_option maxRecDepth 20000 in
theorem ggX5_leave_X1_farEnd : GoodIn wsX5_leave wsX1_farEnd := goodIn_r _ [42, 37, 38, 49, 50, 51, 52, 53, 54, 55, 56, 57, 58, 59, 60] (by decide +kernel) (by decide +kernel)
set_option maxRecDepth 20000 in
theorem gX5_leave_X1_farEnd : GoodIn wsX5_leave (wsV RX5 54 RX1 yX1_farEnd wsX1_farEnd) := goodIn_app (goodIn_of _ (by decide +kernel)) ggX5_leave_X1_farEnd
set_option maxRecDepth 20000 in
theorem ggX5_leave_X1_afterRoad : GoodIn wsX5_leave wsX1_afterRoad := goodIn_r _ [46, 47, 48, 9, 10, 11, 12, 13, 14, 15, 16, 17, 18, 19, 20, 21, 22, 23, 24, 25, 26, 49, 50, 51, 52, 53, 54, 55, 56, 57, 58, 59, 60] (by decide +kernel) (by decide +kernel)
set_option maxRecDepth 20000 in
theorem gX5_leave_X1_afterRoad : GoodIn wsX5_leave (wsV RX5 58 RX1 yX1_afterRoad wsX1_afterRoad) := goodIn_app (goodIn_of _ (by decide +kernel)) ggX5_leave_X1_afterRoad
theorem dX5_leave_0 : decode cX5_leave 0 = .ok (.aload_n 0, 1) := by decide +kernel
theorem dX5_leave_1 : decode cX5_leave 1 = .ok (.iload_n 2, 1) := by decide +kernel
theorem dX5_leave_2 : decode cX5_leave 2 = .ok (.iload_n 3, 1) := by decide +kernel
theorem dX5_leave_3 : decode cX5_leave 3 = .ok (.iconst 1, 1) := by decide +kernel
theorem dX5_leave_4 : decode cX5_leave 4 = .ok (.iadd, 1) := by decide +kernel
theorem dX5_leave_5 : decode cX5_leave 5 = .ok (.aload_n 1, 1) := by decide +kernel
theorem dX5_leave_6 : decode cX5_leave 6 = .ok (.iload_n 2, 1) := by decide +kernel
theorem dX5_leave_7 : decode cX5_leave 7 = .ok (.iload 4, 2) := by decide +kernel
theorem dX5_leave_9 : decode cX5_leave 9 = .ok (.iload_n 3, 1) := by decide +kernel
theorem dX5_leave_10 : decode cX5_leave 10 = .ok (.iload 5, 2) := by decide +kernel
theorem dX5_leave_12 : decode cX5_leave 12 = .ok (.iload 6, 2) := by decide +kernel
theorem dX5_leave_14 : decode cX5_leave 14 = .ok (.invokevirtual 35, 3) := by decide +kernel
theorem dX5_leave_17 : decode cX5_leave 17 = .ok (.invokevirtual 39, 3) := by decide +kernel
theorem dX5_leave_20 : decode cX5_leave 20 = .ok (.iconst 0, 1) := by decide +kernel
theorem dX5_leave_21 : decode cX5_leave 21 = .ok (.istore 7, 2) := by decide +kernel
theorem dX5_leave_23 : decode cX5_leave 23 = .ok (.iload 7, 2) := by decide +kernel
theorem dX5_leave_25 : decode cX5_leave 25 = .ok (.aload_n 1, 1) := by decide +kernel
theorem dX5_leave_26 : decode cX5_leave 26 = .ok (.getfield 43, 3) := by decide +kernel
theorem dX5_leave_29 : decode cX5_leave 29 = .ok (.if_icmp .ge 63, 3) := by decide +kernel
theorem dX5_leave_32 : decode cX5_leave 32 = .ok (.iload_n 3, 1) := by decide +kernel
theorem dX5_leave_33 : decode cX5_leave 33 = .ok (.aload_n 1, 1) := by decide +kernel
theorem dX5_leave_34 : decode cX5_leave 34 = .ok (.getfield 46, 3) := by decide +kernel
theorem dX5_leave_37 : decode cX5_leave 37 = .ok (.iload 7, 2) := by decide +kernel
theorem dX5_leave_39 : decode cX5_leave 39 = .ok (.iaload, 1) := by decide +kernel
theorem dX5_leave_40 : decode cX5_leave 40 = .ok (.iadd, 1) := by decide +kernel
theorem dX5_leave_41 : decode cX5_leave 41 = .ok (.istore 8, 2) := by decide +kernel
theorem dX5_leave_43 : decode cX5_leave 43 = .ok (.aload_n 1, 1) := by decide +kernel
theorem dX5_leave_44 : decode cX5_leave 44 = .ok (.iload 7, 2) := by decide +kernel
theorem dX5_leave_46 : decode cX5_leave 46 = .ok (.iload_n 2, 1) := by decide +kernel
theorem dX5_leave_47 : decode cX5_leave 47 = .ok (.invokevirtual 50, 3) := by decide +kernel
theorem dX5_leave_50 : decode cX5_leave 50 = .ok (.ifCond .eq 36, 3) := by decide +kernel
theorem dX5_leave_53 : decode cX5_leave 53 = .ok (.iload 8, 2) := by decide +kernel
theorem dX5_leave_55 : decode cX5_leave 55 = .ok (.bipush 48, 2) := by decide +kernel
