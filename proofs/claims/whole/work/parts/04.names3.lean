set_option maxRecDepth 20000 in
theorem ggX6_weight_X6_runs : GoodIn wsX6_weight wsX6_runs := goodIn_r _ [9, 10, 11, 12, 13, 14, 15, 16, 3, 17, 18, 19, 8, 20, 21, 2, 22, 23, 24, 25, 26, 27, 28, 29, 30, 31, 32, 33, 34, 35, 36, 37, 38, 39, 40, 41, 42, 43, 44, 45, 46, 47, 48, 49, 50, 51, 52, 53, 54, 55, 56, 57, 58, 59, 60, 61, 62, 63] (by decide +kernel) (by decide +kernel)
set_option maxRecDepth 20000 in
theorem gX6_weight_X6_runs : GoodIn wsX6_weight (wsV RX6 103 RX6 yX6_runs wsX6_runs) := goodIn_app (goodIn_of _ (by decide +kernel)) ggX6_weight_X6_runs
theorem dX6_weight_0 : decode cX6_weight 0 = .ok (.lconst 1, 1) := by decide +kernel
theorem dX6_weight_1 : decode cX6_weight 1 = .ok (.lstore_n 2, 1) := by decide +kernel
theorem dX6_weight_2 : decode cX6_weight 2 = .ok (.aload_n 0, 1) := by decide +kernel
theorem dX6_weight_3 : decode cX6_weight 3 = .ok (.getfield 60, 3) := by decide +kernel
theorem dX6_weight_6 : decode cX6_weight 6 = .ok (.istore 4, 2) := by decide +kernel
theorem dX6_weight_8 : decode cX6_weight 8 = .ok (.iload 4, 2) := by decide +kernel
theorem dX6_weight_10 : decode cX6_weight 10 = .ok (.aload_n 0, 1) := by decide +kernel
theorem dX6_weight_11 : decode cX6_weight 11 = .ok (.getfield 23, 3) := by decide +kernel
theorem dX6_weight_14 : decode cX6_weight 14 = .ok (.if_icmp .ge 65, 3) := by decide +kernel
theorem dX6_weight_17 : decode cX6_weight 17 = .ok (.aload_n 0, 1) := by decide +kernel
theorem dX6_weight_18 : decode cX6_weight 18 = .ok (.getfield 38, 3) := by decide +kernel
theorem dX6_weight_21 : decode cX6_weight 21 = .ok (.iload 4, 2) := by decide +kernel
theorem dX6_weight_23 : decode cX6_weight 23 = .ok (.iload_n 1, 1) := by decide +kernel
theorem dX6_weight_24 : decode cX6_weight 24 = .ok (.iload 4, 2) := by decide +kernel
theorem dX6_weight_26 : decode cX6_weight 26 = .ok (.aload_n 0, 1) := by decide +kernel
theorem dX6_weight_27 : decode cX6_weight 27 = .ok (.getfield 60, 3) := by decide +kernel
theorem dX6_weight_30 : decode cX6_weight 30 = .ok (.isub, 1) := by decide +kernel
theorem dX6_weight_31 : decode cX6_weight 31 = .ok (.ishr, 1) := by decide +kernel
theorem dX6_weight_32 : decode cX6_weight 32 = .ok (.iconst 1, 1) := by decide +kernel
theorem dX6_weight_33 : decode cX6_weight 33 = .ok (.iand, 1) := by decide +kernel
theorem dX6_weight_34 : decode cX6_weight 34 = .ok (.iconst 1, 1) := by decide +kernel
theorem dX6_weight_35 : decode cX6_weight 35 = .ok (.if_icmp .ne 7, 3) := by decide +kernel
theorem dX6_weight_38 : decode cX6_weight 38 = .ok (.iconst 1, 1) := by decide +kernel
theorem dX6_weight_39 : decode cX6_weight 39 = .ok (.goto 4, 3) := by decide +kernel
theorem dX6_weight_42 : decode cX6_weight 42 = .ok (.iconst 0, 1) := by decide +kernel
theorem dX6_weight_43 : decode cX6_weight 43 = .ok (.bastore, 1) := by decide +kernel
theorem dX6_weight_44 : decode cX6_weight 44 = .ok (.lload_n 2, 1) := by decide +kernel
theorem dX6_weight_45 : decode cX6_weight 45 = .ok (.aload_n 0, 1) := by decide +kernel
theorem dX6_weight_46 : decode cX6_weight 46 = .ok (.getfield 38, 3) := by decide +kernel
theorem dX6_weight_49 : decode cX6_weight 49 = .ok (.iload 4, 2) := by decide +kernel
theorem dX6_weight_51 : decode cX6_weight 51 = .ok (.baload, 1) := by decide +kernel
theorem dX6_weight_52 : decode cX6_weight 52 = .ok (.ifCond .eq 11, 3) := by decide +kernel
theorem dX6_weight_55 : decode cX6_weight 55 = .ok (.aload_n 0, 1) := by decide +kernel
theorem dX6_weight_56 : decode cX6_weight 56 = .ok (.getfield 19, 3) := by decide +kernel
theorem dX6_weight_59 : decode cX6_weight 59 = .ok (.i2l, 1) := by decide +kernel
theorem dX6_weight_60 : decode cX6_weight 60 = .ok (.goto 11, 3) := by decide +kernel
theorem dX6_weight_63 : decode cX6_weight 63 = .ok (.bipush 10, 2) := by decide +kernel
theorem dX6_weight_65 : decode cX6_weight 65 = .ok (.aload_n 0, 1) := by decide +kernel
theorem dX6_weight_66 : decode cX6_weight 66 = .ok (.getfield 19, 3) := by decide +kernel
theorem dX6_weight_69 : decode cX6_weight 69 = .ok (.isub, 1) := by decide +kernel
theorem dX6_weight_70 : decode cX6_weight 70 = .ok (.i2l, 1) := by decide +kernel
theorem dX6_weight_71 : decode cX6_weight 71 = .ok (.lmul, 1) := by decide +kernel
theorem dX6_weight_72 : decode cX6_weight 72 = .ok (.lstore_n 2, 1) := by decide +kernel
theorem dX6_weight_73 : decode cX6_weight 73 = .ok (.iinc 4 1, 3) := by decide +kernel
theorem dX6_weight_76 : decode cX6_weight 76 = .ok (.goto (-68), 3) := by decide +kernel
theorem dX6_weight_79 : decode cX6_weight 79 = .ok (.aload_n 0, 1) := by decide +kernel
theorem dX6_weight_80 : decode cX6_weight 80 = .ok (.aload_n 0, 1) := by decide +kernel
theorem dX6_weight_81 : decode cX6_weight 81 = .ok (.getfield 23, 3) := by decide +kernel
theorem dX6_weight_84 : decode cX6_weight 84 = .ok (.invokevirtual 103, 3) := by decide +kernel
theorem dX6_weight_87 : decode cX6_weight 87 = .ok (.lload_n 2, 1) := by decide +kernel
theorem dX6_weight_88 : decode cX6_weight 88 = .ok (.lreturn, 1) := by decide +kernel
set_option maxRecDepth 20000 in
theorem ggX6_sum_X6_paidBy : GoodIn wsX6_sum wsX6_paidBy := goodIn_r _ [7, 2, 8, 9, 10, 6, 11, 12, 13, 14, 15, 16, 17, 18, 19, 20, 21, 22, 23, 24, 25, 26, 27, 28, 29, 30, 31, 32, 33, 34, 35, 36, 37, 38, 39, 40, 41, 42, 43, 44, 58, 59, 60, 61, 62, 63, 64, 65, 66, 67, 68, 69, 70, 71, 72, 73, 74, 75, 76, 77, 78, 79] (by decide +kernel) (by decide +kernel)
set_option maxRecDepth 20000 in
theorem gX6_sum_X6_paidBy : GoodIn wsX6_sum (wsV RX6 107 RX6 yX6_paidBy wsX6_paidBy) := goodIn_app (goodIn_of _ (by decide +kernel)) ggX6_sum_X6_paidBy
set_option maxRecDepth 20000 in
theorem ggX6_sum_X6_rows : GoodIn wsX6_sum wsX6_rows := goodIn_r _ [48, 24, 1, 49, 50, 51, 6, 52, 16, 8, 9, 10, 11, 12, 13, 14, 15, 17, 2, 18, 19, 20, 21, 22, 23, 25, 26, 27, 28, 29, 30, 31, 32, 33, 34, 35, 36, 37, 38, 39, 40, 41, 42, 43, 44, 58, 59, 60, 61, 62, 63, 64, 65, 66, 67, 68, 69, 70, 71, 72, 73, 74, 75, 76, 77, 78, 79] (by decide +kernel) (by decide +kernel)
set_option maxRecDepth 20000 in
theorem gX6_sum_X6_rows : GoodIn wsX6_sum (wsV RX6 114 RX6 yX6_rows wsX6_rows) := goodIn_app (goodIn_of _ (by decide +kernel)) ggX6_sum_X6_rows
set_option maxRecDepth 20000 in
theorem ggX6_sum_X6_weight : GoodIn wsX6_sum wsX6_weight := goodIn_r _ [56, 1, 24, 18, 57, 8, 9, 10, 6, 11, 12, 13, 14, 15, 16, 17, 2, 19, 20, 21, 22, 23, 25, 26, 27, 28, 29, 30, 31, 32, 33, 34, 35, 36, 37, 38, 39, 40, 41, 42, 43, 44, 58, 59, 60, 61, 62, 63, 64, 65, 66, 67, 68, 69, 70, 71, 72, 73, 74, 75, 76, 77, 78, 79] (by decide +kernel) (by decide +kernel)
set_option maxRecDepth 20000 in
theorem gX6_sum_X6_weight : GoodIn wsX6_sum (wsV RX6 117 RX6 yX6_weight wsX6_weight) := goodIn_app (goodIn_of _ (by decide +kernel)) ggX6_sum_X6_weight
theorem dX6_sum_0 : decode cX6_sum 0 = .ok (.aload_n 0, 1) := by decide +kernel
theorem dX6_sum_1 : decode cX6_sum 1 = .ok (.aload_n 0, 1) := by decide +kernel
theorem dX6_sum_2 : decode cX6_sum 2 = .ok (.getfield 60, 3) := by decide +kernel
theorem dX6_sum_5 : decode cX6_sum 5 = .ok (.invokevirtual 107, 3) := by decide +kernel
theorem dX6_sum_8 : decode cX6_sum 8 = .ok (.istore_n 1, 1) := by decide +kernel
theorem dX6_sum_9 : decode cX6_sum 9 = .ok (.lconst 0, 1) := by decide +kernel
theorem dX6_sum_10 : decode cX6_sum 10 = .ok (.lstore_n 2, 1) := by decide +kernel
theorem dX6_sum_11 : decode cX6_sum 11 = .ok (.iconst 0, 1) := by decide +kernel
theorem dX6_sum_12 : decode cX6_sum 12 = .ok (.istore 4, 2) := by decide +kernel
theorem dX6_sum_14 : decode cX6_sum 14 = .ok (.iload 4, 2) := by decide +kernel
theorem dX6_sum_16 : decode cX6_sum 16 = .ok (.aload_n 0, 1) := by decide +kernel
theorem dX6_sum_17 : decode cX6_sum 17 = .ok (.invokevirtual 114, 3) := by decide +kernel
theorem dX6_sum_20 : decode cX6_sum 20 = .ok (.if_icmp .ge 26, 3) := by decide +kernel
theorem dX6_sum_23 : decode cX6_sum 23 = .ok (.lload_n 2, 1) := by decide +kernel
theorem dX6_sum_24 : decode cX6_sum 24 = .ok (.aload_n 0, 1) := by decide +kernel
theorem dX6_sum_25 : decode cX6_sum 25 = .ok (.iload 4, 2) := by decide +kernel
theorem dX6_sum_27 : decode cX6_sum 27 = .ok (.invokevirtual 117, 3) := by decide +kernel
theorem dX6_sum_30 : decode cX6_sum 30 = .ok (.aload_n 0, 1) := by decide +kernel
theorem dX6_sum_31 : decode cX6_sum 31 = .ok (.getfield 90, 3) := by decide +kernel
theorem dX6_sum_34 : decode cX6_sum 34 = .ok (.iload_n 1, 1) := by decide +kernel
theorem dX6_sum_35 : decode cX6_sum 35 = .ok (.isub, 1) := by decide +kernel
theorem dX6_sum_36 : decode cX6_sum 36 = .ok (.i2l, 1) := by decide +kernel
theorem dX6_sum_37 : decode cX6_sum 37 = .ok (.lmul, 1) := by decide +kernel
theorem dX6_sum_38 : decode cX6_sum 38 = .ok (.ladd, 1) := by decide +kernel
theorem dX6_sum_39 : decode cX6_sum 39 = .ok (.lstore_n 2, 1) := by decide +kernel
theorem dX6_sum_40 : decode cX6_sum 40 = .ok (.iinc 4 1, 3) := by decide +kernel
theorem dX6_sum_43 : decode cX6_sum 43 = .ok (.goto (-29), 3) := by decide +kernel
theorem dX6_sum_46 : decode cX6_sum 46 = .ok (.lload_n 2, 1) := by decide +kernel
theorem dX6_sum_47 : decode cX6_sum 47 = .ok (.lreturn, 1) := by decide +kernel
set_option maxRecDepth 20000 in
theorem ggX6_worth_X6_isOverNow : GoodIn wsX6_worth wsX6_isOverNow := goodIn_r _ [6, 7, 8, 9, 10, 11, 5, 12, 13, 14, 15, 16, 17, 18, 19, 20, 21, 22, 23, 24, 25, 26, 27, 28, 29, 30, 31, 32, 33, 34, 35, 36, 37, 38, 39, 40, 41, 42, 43, 44, 45, 63, 64, 65, 66, 67, 68, 69, 70, 71, 72, 73, 74, 75, 76, 77, 78, 79, 80, 81, 82, 83, 84] (by decide +kernel) (by decide +kernel)
set_option maxRecDepth 20000 in
theorem gX6_worth_X6_isOverNow : GoodIn wsX6_worth (wsV RX6 110 RX6 yX6_isOverNow wsX6_isOverNow) := goodIn_app (goodIn_of _ (by decide +kernel)) ggX6_worth_X6_isOverNow
set_option maxRecDepth 20000 in
theorem ggX6_worth_X6_sum : GoodIn wsX6_worth wsX6_sum := goodIn_r _ [49, 7, 18, 50, 51, 52, 5, 53, 9, 10, 11, 12, 13, 14, 15, 16, 8, 17, 19, 20, 21, 22, 23, 24, 25, 26, 27, 28, 29, 30, 31, 32, 33, 34, 35, 36, 37, 38, 39, 40, 41, 42, 43, 44, 45, 54, 55, 56, 57, 2, 3, 4, 6, 58, 59, 60, 61, 62, 63, 64, 65, 66, 67, 68, 69, 70, 71, 72, 73, 74, 75, 76, 77, 78, 79, 80, 81, 82, 83, 84] (by decide +kernel) (by decide +kernel)
set_option maxRecDepth 20000 in
theorem gX6_worth_X6_sum : GoodIn wsX6_worth (wsV RX6 121 RX6 yX6_sum wsX6_sum) := goodIn_app (goodIn_of _ (by decide +kernel)) ggX6_worth_X6_sum
theorem dX6_worth_0 : decode cX6_worth 0 = .ok (.aload_n 0, 1) := by decide +kernel
theorem dX6_worth_1 : decode cX6_worth 1 = .ok (.iconst 0, 1) := by decide +kernel
theorem dX6_worth_2 : decode cX6_worth 2 = .ok (.putfield 49, 3) := by decide +kernel
theorem dX6_worth_5 : decode cX6_worth 5 = .ok (.aload_n 0, 1) := by decide +kernel
theorem dX6_worth_6 : decode cX6_worth 6 = .ok (.invokevirtual 110, 3) := by decide +kernel
theorem dX6_worth_9 : decode cX6_worth 9 = .ok (.ifCond .eq 7, 3) := by decide +kernel
theorem dX6_worth_12 : decode cX6_worth 12 = .ok (.lconst 0, 1) := by decide +kernel
theorem dX6_worth_13 : decode cX6_worth 13 = .ok (.goto 7, 3) := by decide +kernel
theorem dX6_worth_16 : decode cX6_worth 16 = .ok (.aload_n 0, 1) := by decide +kernel
theorem dX6_worth_17 : decode cX6_worth 17 = .ok (.invokevirtual 121, 3) := by decide +kernel
theorem dX6_worth_20 : decode cX6_worth 20 = .ok (.lreturn, 1) := by decide +kernel
set_option maxRecDepth 20000 in
theorem ggX6_worthByPaths_X6_isOverNow : GoodIn wsX6_worthByPaths wsX6_isOverNow := goodIn_r _ [6, 7, 8, 9, 10, 11, 5, 12, 13, 14, 15, 16, 17, 18, 19, 20, 21, 22, 23, 24, 25, 26, 27, 28, 29, 30, 31, 32, 33, 34, 35, 36, 37, 38, 39, 40, 41, 42, 43, 44, 45, 63, 64, 65, 66, 67, 68, 69, 70, 71, 72, 73, 74, 75, 76, 77, 78, 79, 80, 81, 82, 83, 84] (by decide +kernel) (by decide +kernel)
set_option maxRecDepth 20000 in
theorem gX6_worthByPaths_X6_isOverNow : GoodIn wsX6_worthByPaths (wsV RX6 110 RX6 yX6_isOverNow wsX6_isOverNow) := goodIn_app (goodIn_of _ (by decide +kernel)) ggX6_worthByPaths_X6_isOverNow
set_option maxRecDepth 20000 in
theorem ggX6_worthByPaths_X6_sum : GoodIn wsX6_worthByPaths wsX6_sum := goodIn_r _ [49, 7, 18, 50, 51, 52, 5, 53, 9, 10, 11, 12, 13, 14, 15, 16, 8, 17, 19, 20, 21, 22, 23, 24, 25, 26, 27, 28, 29, 30, 31, 32, 33, 34, 35, 36, 37, 38, 39, 40, 41, 42, 43, 44, 45, 54, 55, 56, 57, 2, 3, 4, 6, 58, 59, 60, 61, 62, 63, 64, 65, 66, 67, 68, 69, 70, 71, 72, 73, 74, 75, 76, 77, 78, 79, 80, 81, 82, 83, 84] (by decide +kernel) (by decide +kernel)
set_option maxRecDepth 20000 in
theorem gX6_worthByPaths_X6_sum : GoodIn wsX6_worthByPaths (wsV RX6 121 RX6 yX6_sum wsX6_sum) := goodIn_app (goodIn_of _ (by decide +kernel)) ggX6_worthByPaths_X6_sum
theorem dX6_worthByPaths_0 : decode cX6_worthByPaths 0 = .ok (.aload_n 0, 1) := by decide +kernel
theorem dX6_worthByPaths_1 : decode cX6_worthByPaths 1 = .ok (.iconst 0, 1) := by decide +kernel
theorem dX6_worthByPaths_2 : decode cX6_worthByPaths 2 = .ok (.putfield 49, 3) := by decide +kernel
theorem dX6_worthByPaths_5 : decode cX6_worthByPaths 5 = .ok (.aload_n 0, 1) := by decide +kernel
theorem dX6_worthByPaths_6 : decode cX6_worthByPaths 6 = .ok (.invokevirtual 110, 3) := by decide +kernel
theorem dX6_worthByPaths_9 : decode cX6_worthByPaths 9 = .ok (.ifCond .eq 7, 3) := by decide +kernel
theorem dX6_worthByPaths_12 : decode cX6_worthByPaths 12 = .ok (.lconst 0, 1) := by decide +kernel
theorem dX6_worthByPaths_13 : decode cX6_worthByPaths 13 = .ok (.goto 7, 3) := by decide +kernel
theorem dX6_worthByPaths_16 : decode cX6_worthByPaths 16 = .ok (.aload_n 0, 1) := by decide +kernel
theorem dX6_worthByPaths_17 : decode cX6_worthByPaths 17 = .ok (.invokevirtual 121, 3) := by decide +kernel
theorem dX6_worthByPaths_20 : decode cX6_worthByPaths 20 = .ok (.lreturn, 1) := by decide +kernel
set_option maxRecDepth 20000 in
theorem ggX6_divisor_X6_isOverNow : GoodIn wsX6_divisor wsX6_isOverNow := goodIn_r _ [9, 2, 10, 11, 12, 13, 8, 14, 15, 16, 17, 18, 19, 20, 21, 22, 23, 24, 25, 26, 3, 27, 28, 29, 30, 31, 32, 33, 34, 35, 36, 37, 38, 39, 40, 41, 42, 43, 44, 45, 46, 47, 48, 49, 50, 51, 52, 53, 54, 55, 56, 57, 58, 59, 60, 61, 62, 63, 64, 65, 66, 67, 68] (by decide +kernel) (by decide +kernel)
set_option maxRecDepth 20000 in
theorem gX6_divisor_X6_isOverNow : GoodIn wsX6_divisor (wsV RX6 110 RX6 yX6_isOverNow wsX6_isOverNow) := goodIn_app (goodIn_of _ (by decide +kernel)) ggX6_divisor_X6_isOverNow
theorem dX6_divisor_0 : decode cX6_divisor 0 = .ok (.aload_n 0, 1) := by decide +kernel
theorem dX6_divisor_1 : decode cX6_divisor 1 = .ok (.iconst 0, 1) := by decide +kernel
theorem dX6_divisor_2 : decode cX6_divisor 2 = .ok (.putfield 49, 3) := by decide +kernel
theorem dX6_divisor_5 : decode cX6_divisor 5 = .ok (.lconst 1, 1) := by decide +kernel
theorem dX6_divisor_6 : decode cX6_divisor 6 = .ok (.lstore_n 1, 1) := by decide +kernel
theorem dX6_divisor_7 : decode cX6_divisor 7 = .ok (.aload_n 0, 1) := by decide +kernel
theorem dX6_divisor_8 : decode cX6_divisor 8 = .ok (.getfield 60, 3) := by decide +kernel
theorem dX6_divisor_11 : decode cX6_divisor 11 = .ok (.istore_n 3, 1) := by decide +kernel
theorem dX6_divisor_12 : decode cX6_divisor 12 = .ok (.iload_n 3, 1) := by decide +kernel
theorem dX6_divisor_13 : decode cX6_divisor 13 = .ok (.aload_n 0, 1) := by decide +kernel
theorem dX6_divisor_14 : decode cX6_divisor 14 = .ok (.getfield 23, 3) := by decide +kernel
theorem dX6_divisor_17 : decode cX6_divisor 17 = .ok (.if_icmp .ge 22, 3) := by decide +kernel
theorem dX6_divisor_20 : decode cX6_divisor 20 = .ok (.aload_n 0, 1) := by decide +kernel
theorem dX6_divisor_21 : decode cX6_divisor 21 = .ok (.invokevirtual 110, 3) := by decide +kernel
theorem dX6_divisor_24 : decode cX6_divisor 24 = .ok (.ifCond .ne 15, 3) := by decide +kernel
theorem dX6_divisor_27 : decode cX6_divisor 27 = .ok (.lload_n 1, 1) := by decide +kernel
theorem dX6_divisor_28 : decode cX6_divisor 28 = .ok (.ldc2_w 125, 3) := by decide +kernel
theorem dX6_divisor_31 : decode cX6_divisor 31 = .ok (.lmul, 1) := by decide +kernel
theorem dX6_divisor_32 : decode cX6_divisor 32 = .ok (.lstore_n 1, 1) := by decide +kernel
theorem dX6_divisor_33 : decode cX6_divisor 33 = .ok (.iinc 3 1, 3) := by decide +kernel
theorem dX6_divisor_36 : decode cX6_divisor 36 = .ok (.goto (-24), 3) := by decide +kernel
theorem dX6_divisor_39 : decode cX6_divisor 39 = .ok (.lload_n 1, 1) := by decide +kernel
theorem dX6_divisor_40 : decode cX6_divisor 40 = .ok (.lreturn, 1) := by decide +kernel
set_option maxRecDepth 20000 in
theorem ggX6_states_X6_isOverNow : GoodIn wsX6_states wsX6_isOverNow := goodIn_r _ [12, 13, 14, 15, 16, 17, 11, 18, 2, 19, 3, 4, 5, 20, 21, 22, 23, 24, 25, 26, 6, 27, 28, 29, 30, 31, 32, 33, 34, 35, 36, 37, 38, 39, 40, 41, 42, 43, 44, 45, 46, 56, 57, 58, 59, 60, 61, 62, 63, 64, 65, 66, 67, 68, 69, 70, 71, 72, 73, 74, 75, 76, 77] (by decide +kernel) (by decide +kernel)
set_option maxRecDepth 20000 in
theorem gX6_states_X6_isOverNow : GoodIn wsX6_states (wsV RX6 110 RX6 yX6_isOverNow wsX6_isOverNow) := goodIn_app (goodIn_of _ (by decide +kernel)) ggX6_states_X6_isOverNow
set_option maxRecDepth 20000 in
theorem ggX6_states_X6_rows : GoodIn wsX6_states wsX6_rows := goodIn_r _ [50, 6, 13, 8, 9, 10, 11, 12, 14, 15, 16, 17, 18, 2, 19, 3, 4, 5, 20, 21, 22, 23, 24, 25, 26, 27, 28, 29, 30, 31, 32, 33, 34, 35, 36, 37, 38, 39, 40, 41, 42, 43, 44, 45, 46, 56, 57, 58, 59, 60, 61, 62, 63, 64, 65, 66, 67, 68, 69, 70, 71, 72, 73, 74, 75, 76, 77] (by decide +kernel) (by decide +kernel)
set_option maxRecDepth 20000 in
theorem gX6_states_X6_rows : GoodIn wsX6_states (wsV RX6 114 RX6 yX6_rows wsX6_rows) := goodIn_app (goodIn_of _ (by decide +kernel)) ggX6_states_X6_rows
set_option maxRecDepth 20000 in
theorem ggX6_states_X6_weight : GoodIn wsX6_states wsX6_weight := goodIn_r _ [54, 13, 6, 21, 55, 15, 16, 17, 11, 18, 2, 19, 3, 4, 14, 5, 20, 22, 23, 24, 25, 26, 27, 28, 29, 30, 31, 32, 33, 34, 35, 36, 37, 38, 39, 40, 41, 42, 43, 44, 45, 46, 56, 57, 58, 59, 60, 61, 62, 63, 64, 65, 66, 67, 68, 69, 70, 71, 72, 73, 74, 75, 76, 77] (by decide +kernel) (by decide +kernel)
set_option maxRecDepth 20000 in
theorem gX6_states_X6_weight : GoodIn wsX6_states (wsV RX6 117 RX6 yX6_weight wsX6_weight) := goodIn_app (goodIn_of _ (by decide +kernel)) ggX6_states_X6_weight
theorem dX6_states_0 : decode cX6_states 0 = .ok (.aload_n 0, 1) := by decide +kernel
theorem dX6_states_1 : decode cX6_states 1 = .ok (.iconst 0, 1) := by decide +kernel
theorem dX6_states_2 : decode cX6_states 2 = .ok (.putfield 49, 3) := by decide +kernel
theorem dX6_states_5 : decode cX6_states 5 = .ok (.aload_n 0, 1) := by decide +kernel
theorem dX6_states_6 : decode cX6_states 6 = .ok (.invokevirtual 110, 3) := by decide +kernel
theorem dX6_states_9 : decode cX6_states 9 = .ok (.ifCond .eq 5, 3) := by decide +kernel
theorem dX6_states_12 : decode cX6_states 12 = .ok (.iconst 1, 1) := by decide +kernel
theorem dX6_states_13 : decode cX6_states 13 = .ok (.ireturn, 1) := by decide +kernel
theorem dX6_states_14 : decode cX6_states 14 = .ok (.iconst 0, 1) := by decide +kernel
theorem dX6_states_15 : decode cX6_states 15 = .ok (.istore_n 1, 1) := by decide +kernel
theorem dX6_states_16 : decode cX6_states 16 = .ok (.iconst 0, 1) := by decide +kernel
theorem dX6_states_17 : decode cX6_states 17 = .ok (.istore_n 2, 1) := by decide +kernel
theorem dX6_states_18 : decode cX6_states 18 = .ok (.iload_n 2, 1) := by decide +kernel
theorem dX6_states_19 : decode cX6_states 19 = .ok (.aload_n 0, 1) := by decide +kernel
theorem dX6_states_20 : decode cX6_states 20 = .ok (.invokevirtual 114, 3) := by decide +kernel
theorem dX6_states_23 : decode cX6_states 23 = .ok (.if_icmp .ge 145, 3) := by decide +kernel
theorem dX6_states_26 : decode cX6_states 26 = .ok (.aload_n 0, 1) := by decide +kernel
theorem dX6_states_27 : decode cX6_states 27 = .ok (.iload_n 2, 1) := by decide +kernel
theorem dX6_states_28 : decode cX6_states 28 = .ok (.invokevirtual 117, 3) := by decide +kernel
theorem dX6_states_31 : decode cX6_states 31 = .ok (.pop2, 1) := by decide +kernel
theorem dX6_states_32 : decode cX6_states 32 = .ok (.aload_n 0, 1) := by decide +kernel
theorem dX6_states_33 : decode cX6_states 33 = .ok (.getfield 42, 3) := by decide +kernel
theorem dX6_states_36 : decode cX6_states 36 = .ok (.iconst 0, 1) := by decide +kernel
theorem dX6_states_37 : decode cX6_states 37 = .ok (.iaload, 1) := by decide +kernel
theorem dX6_states_38 : decode cX6_states 38 = .ok (.i2l, 1) := by decide +kernel
theorem dX6_states_39 : decode cX6_states 39 = .ok (.bipush 40, 2) := by decide +kernel
theorem dX6_states_41 : decode cX6_states 41 = .ok (.lshl, 1) := by decide +kernel
theorem dX6_states_42 : decode cX6_states 42 = .ok (.aload_n 0, 1) := by decide +kernel
theorem dX6_states_43 : decode cX6_states 43 = .ok (.getfield 42, 3) := by decide +kernel
theorem dX6_states_46 : decode cX6_states 46 = .ok (.iconst 1, 1) := by decide +kernel
theorem dX6_states_47 : decode cX6_states 47 = .ok (.iaload, 1) := by decide +kernel
theorem dX6_states_48 : decode cX6_states 48 = .ok (.i2l, 1) := by decide +kernel
theorem dX6_states_49 : decode cX6_states 49 = .ok (.bipush 16, 2) := by decide +kernel
theorem dX6_states_51 : decode cX6_states 51 = .ok (.lshl, 1) := by decide +kernel
theorem dX6_states_52 : decode cX6_states 52 = .ok (.lor, 1) := by decide +kernel
theorem dX6_states_53 : decode cX6_states 53 = .ok (.aload_n 0, 1) := by decide +kernel
theorem dX6_states_54 : decode cX6_states 54 = .ok (.getfield 93, 3) := by decide +kernel
theorem dX6_states_57 : decode cX6_states 57 = .ok (.iconst 4, 1) := by decide +kernel
theorem dX6_states_58 : decode cX6_states 58 = .ok (.ishl, 1) := by decide +kernel
theorem dX6_states_59 : decode cX6_states 59 = .ok (.i2l, 1) := by decide +kernel
theorem dX6_states_60 : decode cX6_states 60 = .ok (.lor, 1) := by decide +kernel
theorem dX6_states_61 : decode cX6_states 61 = .ok (.aload_n 0, 1) := by decide +kernel
theorem dX6_states_62 : decode cX6_states 62 = .ok (.getfield 87, 3) := by decide +kernel
theorem dX6_states_65 : decode cX6_states 65 = .ok (.ifCond .eq 7, 3) := by decide +kernel
theorem dX6_states_68 : decode cX6_states 68 = .ok (.iconst 1, 1) := by decide +kernel
theorem dX6_states_69 : decode cX6_states 69 = .ok (.goto 4, 3) := by decide +kernel
theorem dX6_states_72 : decode cX6_states 72 = .ok (.iconst 0, 1) := by decide +kernel
theorem dX6_states_73 : decode cX6_states 73 = .ok (.i2l, 1) := by decide +kernel
theorem dX6_states_74 : decode cX6_states 74 = .ok (.lor, 1) := by decide +kernel
theorem dX6_states_75 : decode cX6_states 75 = .ok (.lstore_n 3, 1) := by decide +kernel
theorem dX6_states_76 : decode cX6_states 76 = .ok (.aload_n 0, 1) := by decide +kernel
theorem dX6_states_77 : decode cX6_states 77 = .ok (.getfield 80, 3) := by decide +kernel
theorem dX6_states_80 : decode cX6_states 80 = .ok (.aload_n 0, 1) := by decide +kernel
theorem dX6_states_81 : decode cX6_states 81 = .ok (.getfield 23, 3) := by decide +kernel
theorem dX6_states_84 : decode cX6_states 84 = .ok (.if_icmp .ne 7, 3) := by decide +kernel
theorem dX6_states_87 : decode cX6_states 87 = .ok (.iconst 1, 1) := by decide +kernel
theorem dX6_states_88 : decode cX6_states 88 = .ok (.goto 4, 3) := by decide +kernel
theorem dX6_states_91 : decode cX6_states 91 = .ok (.iconst 0, 1) := by decide +kernel
theorem dX6_states_92 : decode cX6_states 92 = .ok (.istore 5, 2) := by decide +kernel
theorem dX6_states_94 : decode cX6_states 94 = .ok (.iconst 0, 1) := by decide +kernel
theorem dX6_states_95 : decode cX6_states 95 = .ok (.istore 6, 2) := by decide +kernel
theorem dX6_states_97 : decode cX6_states 97 = .ok (.iload 6, 2) := by decide +kernel
theorem dX6_states_99 : decode cX6_states 99 = .ok (.iload_n 1, 1) := by decide +kernel
theorem dX6_states_100 : decode cX6_states 100 = .ok (.if_icmp .ge 33, 3) := by decide +kernel
theorem dX6_states_103 : decode cX6_states 103 = .ok (.iload 5, 2) := by decide +kernel
theorem dX6_states_105 : decode cX6_states 105 = .ok (.ifCond .eq 19, 3) := by decide +kernel
theorem dX6_states_108 : decode cX6_states 108 = .ok (.aload_n 0, 1) := by decide +kernel
theorem dX6_states_109 : decode cX6_states 109 = .ok (.getfield 45, 3) := by decide +kernel
theorem dX6_states_112 : decode cX6_states 112 = .ok (.iload 6, 2) := by decide +kernel
theorem dX6_states_114 : decode cX6_states 114 = .ok (.laload, 1) := by decide +kernel
theorem dX6_states_115 : decode cX6_states 115 = .ok (.lload_n 3, 1) := by decide +kernel
theorem dX6_states_116 : decode cX6_states 116 = .ok (.lcmp, 1) := by decide +kernel
theorem dX6_states_117 : decode cX6_states 117 = .ok (.ifCond .eq 7, 3) := by decide +kernel
theorem dX6_states_120 : decode cX6_states 120 = .ok (.iconst 1, 1) := by decide +kernel
theorem dX6_states_121 : decode cX6_states 121 = .ok (.goto 4, 3) := by decide +kernel
theorem dX6_states_124 : decode cX6_states 124 = .ok (.iconst 0, 1) := by decide +kernel
theorem dX6_states_125 : decode cX6_states 125 = .ok (.istore 5, 2) := by decide +kernel
theorem dX6_states_127 : decode cX6_states 127 = .ok (.iinc 6 1, 3) := by decide +kernel
theorem dX6_states_130 : decode cX6_states 130 = .ok (.goto (-33), 3) := by decide +kernel
theorem dX6_states_133 : decode cX6_states 133 = .ok (.aload_n 0, 1) := by decide +kernel
theorem dX6_states_134 : decode cX6_states 134 = .ok (.getfield 45, 3) := by decide +kernel
theorem dX6_states_137 : decode cX6_states 137 = .ok (.iload_n 1, 1) := by decide +kernel
theorem dX6_states_138 : decode cX6_states 138 = .ok (.iload 5, 2) := by decide +kernel
theorem dX6_states_140 : decode cX6_states 140 = .ok (.ifCond .eq 7, 3) := by decide +kernel
theorem dX6_states_143 : decode cX6_states 143 = .ok (.lload_n 3, 1) := by decide +kernel
theorem dX6_states_144 : decode cX6_states 144 = .ok (.goto 4, 3) := by decide +kernel
theorem dX6_states_147 : decode cX6_states 147 = .ok (.lconst 0, 1) := by decide +kernel
theorem dX6_states_148 : decode cX6_states 148 = .ok (.lastore, 1) := by decide +kernel
theorem dX6_states_149 : decode cX6_states 149 = .ok (.iload_n 1, 1) := by decide +kernel
theorem dX6_states_150 : decode cX6_states 150 = .ok (.iload 5, 2) := by decide +kernel
theorem dX6_states_152 : decode cX6_states 152 = .ok (.ifCond .eq 7, 3) := by decide +kernel
theorem dX6_states_155 : decode cX6_states 155 = .ok (.iconst 1, 1) := by decide +kernel
theorem dX6_states_156 : decode cX6_states 156 = .ok (.goto 4, 3) := by decide +kernel
theorem dX6_states_159 : decode cX6_states 159 = .ok (.iconst 0, 1) := by decide +kernel
theorem dX6_states_160 : decode cX6_states 160 = .ok (.iadd, 1) := by decide +kernel
theorem dX6_states_161 : decode cX6_states 161 = .ok (.istore_n 1, 1) := by decide +kernel
theorem dX6_states_162 : decode cX6_states 162 = .ok (.iinc 2 1, 3) := by decide +kernel
theorem dX6_states_165 : decode cX6_states 165 = .ok (.goto (-147), 3) := by decide +kernel
theorem dX6_states_168 : decode cX6_states 168 = .ok (.iload_n 1, 1) := by decide +kernel
theorem dX6_states_169 : decode cX6_states 169 = .ok (.ireturn, 1) := by decide +kernel
set_option maxRecDepth 20000 in
theorem ggX6_extreme_X6_paidBy : GoodIn wsX6_extreme wsX6_paidBy := goodIn_r _ [7, 2, 8, 9, 10, 6, 11, 12, 13, 14, 15, 16, 17, 18, 19, 20, 21, 22, 23, 24, 25, 26, 27, 28, 29, 30, 31, 32, 33, 34, 35, 36, 37, 38, 39, 40, 41, 42, 43, 44, 58, 59, 60, 61, 62, 63, 64, 65, 66, 67, 68, 69, 70, 71, 72, 73, 74, 75, 76, 77, 78, 79] (by decide +kernel) (by decide +kernel)
set_option maxRecDepth 20000 in
theorem gX6_extreme_X6_paidBy : GoodIn wsX6_extreme (wsV RX6 107 RX6 yX6_paidBy wsX6_paidBy) := goodIn_app (goodIn_of _ (by decide +kernel)) ggX6_extreme_X6_paidBy
set_option maxRecDepth 20000 in
theorem ggX6_extreme_X6_rows : GoodIn wsX6_extreme wsX6_rows := goodIn_r _ [48, 24, 1, 49, 50, 51, 6, 52, 16, 8, 9, 10, 11, 12, 13, 14, 15, 17, 2, 18, 19, 20, 21, 22, 23, 25, 26, 27, 28, 29, 30, 31, 32, 33, 34, 35, 36, 37, 38, 39, 40, 41, 42, 43, 44, 58, 59, 60, 61, 62, 63, 64, 65, 66, 67, 68, 69, 70, 71, 72, 73, 74, 75, 76, 77, 78, 79] (by decide +kernel) (by decide +kernel)
set_option maxRecDepth 20000 in
theorem gX6_extreme_X6_rows : GoodIn wsX6_extreme (wsV RX6 114 RX6 yX6_rows wsX6_rows) := goodIn_app (goodIn_of _ (by decide +kernel)) ggX6_extreme_X6_rows
set_option maxRecDepth 20000 in
theorem ggX6_extreme_X6_weight : GoodIn wsX6_extreme wsX6_weight := goodIn_r _ [56, 1, 24, 18, 57, 8, 9, 10, 6, 11, 12, 13, 14, 15, 16, 17, 2, 19, 20, 21, 22, 23, 25, 26, 27, 28, 29, 30, 31, 32, 33, 34, 35, 36, 37, 38, 39, 40, 41, 42, 43, 44, 58, 59, 60, 61, 62, 63, 64, 65, 66, 67, 68, 69, 70, 71, 72, 73, 74, 75, 76, 77, 78, 79] (by decide +kernel) (by decide +kernel)
set_option maxRecDepth 20000 in
theorem gX6_extreme_X6_weight : GoodIn wsX6_extreme (wsV RX6 117 RX6 yX6_weight wsX6_weight) := goodIn_app (goodIn_of _ (by decide +kernel)) ggX6_extreme_X6_weight
theorem dX6_extreme_0 : decode cX6_extreme 0 = .ok (.aload_n 0, 1) := by decide +kernel
theorem dX6_extreme_1 : decode cX6_extreme 1 = .ok (.aload_n 0, 1) := by decide +kernel
theorem dX6_extreme_2 : decode cX6_extreme 2 = .ok (.getfield 60, 3) := by decide +kernel
theorem dX6_extreme_5 : decode cX6_extreme 5 = .ok (.invokevirtual 107, 3) := by decide +kernel
theorem dX6_extreme_8 : decode cX6_extreme 8 = .ok (.istore_n 2, 1) := by decide +kernel
theorem dX6_extreme_9 : decode cX6_extreme 9 = .ok (.iconst (-1), 1) := by decide +kernel
theorem dX6_extreme_10 : decode cX6_extreme 10 = .ok (.istore_n 3, 1) := by decide +kernel
theorem dX6_extreme_11 : decode cX6_extreme 11 = .ok (.iconst 0, 1) := by decide +kernel
theorem dX6_extreme_12 : decode cX6_extreme 12 = .ok (.istore 4, 2) := by decide +kernel
theorem dX6_extreme_14 : decode cX6_extreme 14 = .ok (.iload 4, 2) := by decide +kernel
theorem dX6_extreme_16 : decode cX6_extreme 16 = .ok (.aload_n 0, 1) := by decide +kernel
theorem dX6_extreme_17 : decode cX6_extreme 17 = .ok (.invokevirtual 114, 3) := by decide +kernel
theorem dX6_extreme_20 : decode cX6_extreme 20 = .ok (.if_icmp .ge 55, 3) := by decide +kernel
theorem dX6_extreme_23 : decode cX6_extreme 23 = .ok (.aload_n 0, 1) := by decide +kernel
theorem dX6_extreme_24 : decode cX6_extreme 24 = .ok (.iload 4, 2) := by decide +kernel
theorem dX6_extreme_26 : decode cX6_extreme 26 = .ok (.invokevirtual 117, 3) := by decide +kernel
theorem dX6_extreme_29 : decode cX6_extreme 29 = .ok (.pop2, 1) := by decide +kernel
theorem dX6_extreme_30 : decode cX6_extreme 30 = .ok (.aload_n 0, 1) := by decide +kernel
theorem dX6_extreme_31 : decode cX6_extreme 31 = .ok (.getfield 90, 3) := by decide +kernel
theorem dX6_extreme_34 : decode cX6_extreme 34 = .ok (.iload_n 2, 1) := by decide +kernel
theorem dX6_extreme_35 : decode cX6_extreme 35 = .ok (.isub, 1) := by decide +kernel
theorem dX6_extreme_36 : decode cX6_extreme 36 = .ok (.istore 5, 2) := by decide +kernel
theorem dX6_extreme_38 : decode cX6_extreme 38 = .ok (.iload_n 3, 1) := by decide +kernel
theorem dX6_extreme_39 : decode cX6_extreme 39 = .ok (.iconst (-1), 1) := by decide +kernel
theorem dX6_extreme_40 : decode cX6_extreme 40 = .ok (.if_icmp .eq 22, 3) := by decide +kernel
theorem dX6_extreme_43 : decode cX6_extreme 43 = .ok (.iload_n 1, 1) := by decide +kernel
theorem dX6_extreme_44 : decode cX6_extreme 44 = .ok (.ifCond .eq 12, 3) := by decide +kernel
theorem dX6_extreme_47 : decode cX6_extreme 47 = .ok (.iload 5, 2) := by decide +kernel
theorem dX6_extreme_49 : decode cX6_extreme 49 = .ok (.iload_n 3, 1) := by decide +kernel
theorem dX6_extreme_50 : decode cX6_extreme 50 = .ok (.if_icmp .le 17, 3) := by decide +kernel
theorem dX6_extreme_53 : decode cX6_extreme 53 = .ok (.goto 9, 3) := by decide +kernel
theorem dX6_extreme_56 : decode cX6_extreme 56 = .ok (.iload 5, 2) := by decide +kernel
theorem dX6_extreme_58 : decode cX6_extreme 58 = .ok (.iload_n 3, 1) := by decide +kernel
theorem dX6_extreme_59 : decode cX6_extreme 59 = .ok (.if_icmp .ge 8, 3) := by decide +kernel
theorem dX6_extreme_62 : decode cX6_extreme 62 = .ok (.iload 5, 2) := by decide +kernel
theorem dX6_extreme_64 : decode cX6_extreme 64 = .ok (.goto 4, 3) := by decide +kernel
theorem dX6_extreme_67 : decode cX6_extreme 67 = .ok (.iload_n 3, 1) := by decide +kernel
theorem dX6_extreme_68 : decode cX6_extreme 68 = .ok (.istore_n 3, 1) := by decide +kernel
theorem dX6_extreme_69 : decode cX6_extreme 69 = .ok (.iinc 4 1, 3) := by decide +kernel
theorem dX6_extreme_72 : decode cX6_extreme 72 = .ok (.goto (-58), 3) := by decide +kernel
theorem dX6_extreme_75 : decode cX6_extreme 75 = .ok (.iload_n 3, 1) := by decide +kernel
theorem dX6_extreme_76 : decode cX6_extreme 76 = .ok (.ireturn, 1) := by decide +kernel
set_option maxRecDepth 20000 in
theorem ggX6_least_X6_isOverNow : GoodIn wsX6_least wsX6_isOverNow := goodIn_r _ [6, 7, 8, 9, 10, 11, 5, 12, 13, 14, 15, 16, 17, 18, 19, 20, 21, 22, 23, 24, 25, 26, 27, 28, 29, 30, 31, 32, 33, 34, 35, 36, 37, 38, 39, 40, 41, 42, 43, 44, 45, 63, 64, 65, 66, 67, 68, 69, 70, 71, 72, 73, 74, 75, 76, 77, 78, 79, 80, 81, 82, 83, 84] (by decide +kernel) (by decide +kernel)
set_option maxRecDepth 20000 in
theorem gX6_least_X6_isOverNow : GoodIn wsX6_least (wsV RX6 110 RX6 yX6_isOverNow wsX6_isOverNow) := goodIn_app (goodIn_of _ (by decide +kernel)) ggX6_least_X6_isOverNow
set_option maxRecDepth 20000 in
theorem ggX6_least_X6_extreme : GoodIn wsX6_least wsX6_extreme := goodIn_r _ [49, 7, 18, 50, 51, 52, 5, 53, 9, 10, 11, 12, 13, 14, 15, 16, 8, 17, 19, 20, 21, 22, 23, 24, 25, 26, 27, 28, 29, 30, 31, 32, 33, 34, 35, 36, 37, 38, 39, 40, 41, 42, 43, 44, 45, 54, 55, 56, 57, 2, 3, 4, 6, 58, 59, 60, 61, 62, 63, 64, 65, 66, 67, 68, 69, 70, 71, 72, 73, 74, 75, 76, 77, 78, 79, 80, 81, 82, 83, 84] (by decide +kernel) (by decide +kernel)
set_option maxRecDepth 20000 in
theorem gX6_least_X6_extreme : GoodIn wsX6_least (wsV RX6 127 RX6 yX6_extreme wsX6_extreme) := goodIn_app (goodIn_of _ (by decide +kernel)) ggX6_least_X6_extreme
theorem dX6_least_0 : decode cX6_least 0 = .ok (.aload_n 0, 1) := by decide +kernel
theorem dX6_least_1 : decode cX6_least 1 = .ok (.iconst 0, 1) := by decide +kernel
theorem dX6_least_2 : decode cX6_least 2 = .ok (.putfield 49, 3) := by decide +kernel
theorem dX6_least_5 : decode cX6_least 5 = .ok (.aload_n 0, 1) := by decide +kernel
theorem dX6_least_6 : decode cX6_least 6 = .ok (.invokevirtual 110, 3) := by decide +kernel
theorem dX6_least_9 : decode cX6_least 9 = .ok (.ifCond .eq 7, 3) := by decide +kernel
theorem dX6_least_12 : decode cX6_least 12 = .ok (.iconst 0, 1) := by decide +kernel
theorem dX6_least_13 : decode cX6_least 13 = .ok (.goto 8, 3) := by decide +kernel
theorem dX6_least_16 : decode cX6_least 16 = .ok (.aload_n 0, 1) := by decide +kernel
theorem dX6_least_17 : decode cX6_least 17 = .ok (.iconst 0, 1) := by decide +kernel
theorem dX6_least_18 : decode cX6_least 18 = .ok (.invokevirtual 127, 3) := by decide +kernel
theorem dX6_least_21 : decode cX6_least 21 = .ok (.ireturn, 1) := by decide +kernel
set_option maxRecDepth 20000 in
theorem ggX6_most_X6_isOverNow : GoodIn wsX6_most wsX6_isOverNow := goodIn_r _ [6, 7, 8, 9, 10, 11, 5, 12, 13, 14, 15, 16, 17, 18, 19, 20, 21, 22, 23, 24, 25, 26, 27, 28, 29, 30, 31, 32, 33, 34, 35, 36, 37, 38, 39, 40, 41, 42, 43, 44, 45, 63, 64, 65, 66, 67, 68, 69, 70, 71, 72, 73, 74, 75, 76, 77, 78, 79, 80, 81, 82, 83, 84] (by decide +kernel) (by decide +kernel)
set_option maxRecDepth 20000 in
theorem gX6_most_X6_isOverNow : GoodIn wsX6_most (wsV RX6 110 RX6 yX6_isOverNow wsX6_isOverNow) := goodIn_app (goodIn_of _ (by decide +kernel)) ggX6_most_X6_isOverNow
set_option maxRecDepth 20000 in
theorem ggX6_most_X6_extreme : GoodIn wsX6_most wsX6_extreme := goodIn_r _ [49, 7, 18, 50, 51, 52, 5, 53, 9, 10, 11, 12, 13, 14, 15, 16, 8, 17, 19, 20, 21, 22, 23, 24, 25, 26, 27, 28, 29, 30, 31, 32, 33, 34, 35, 36, 37, 38, 39, 40, 41, 42, 43, 44, 45, 54, 55, 56, 57, 2, 3, 4, 6, 58, 59, 60, 61, 62, 63, 64, 65, 66, 67, 68, 69, 70, 71, 72, 73, 74, 75, 76, 77, 78, 79, 80, 81, 82, 83, 84] (by decide +kernel) (by decide +kernel)
set_option maxRecDepth 20000 in
theorem gX6_most_X6_extreme : GoodIn wsX6_most (wsV RX6 127 RX6 yX6_extreme wsX6_extreme) := goodIn_app (goodIn_of _ (by decide +kernel)) ggX6_most_X6_extreme
theorem dX6_most_0 : decode cX6_most 0 = .ok (.aload_n 0, 1) := by decide +kernel
theorem dX6_most_1 : decode cX6_most 1 = .ok (.iconst 0, 1) := by decide +kernel
theorem dX6_most_2 : decode cX6_most 2 = .ok (.putfield 49, 3) := by decide +kernel
theorem dX6_most_5 : decode cX6_most 5 = .ok (.aload_n 0, 1) := by decide +kernel
theorem dX6_most_6 : decode cX6_most 6 = .ok (.invokevirtual 110, 3) := by decide +kernel
theorem dX6_most_9 : decode cX6_most 9 = .ok (.ifCond .eq 7, 3) := by decide +kernel
theorem dX6_most_12 : decode cX6_most 12 = .ok (.iconst 0, 1) := by decide +kernel
theorem dX6_most_13 : decode cX6_most 13 = .ok (.goto 8, 3) := by decide +kernel
theorem dX6_most_16 : decode cX6_most 16 = .ok (.aload_n 0, 1) := by decide +kernel
theorem dX6_most_17 : decode cX6_most 17 = .ok (.iconst 1, 1) := by decide +kernel
theorem dX6_most_18 : decode cX6_most 18 = .ok (.invokevirtual 127, 3) := by decide +kernel
theorem dX6_most_21 : decode cX6_most 21 = .ok (.ireturn, 1) := by decide +kernel
set_option maxRecDepth 20000 in
theorem ggX6_endsIn_X6_isIn : GoodIn wsX6_endsIn wsX6_isIn := goodIn_r _ [7] (by decide +kernel) (by decide +kernel)
set_option maxRecDepth 20000 in
theorem gX6_endsIn_X6_isIn : GoodIn wsX6_endsIn (va_wsS RX6 52 yX6_isIn wsX6_isIn) := goodIn_app (goodIn_of _ (by decide +kernel)) ggX6_endsIn_X6_isIn
set_option maxRecDepth 20000 in
theorem ggX6_endsIn_X6_goes : GoodIn wsX6_endsIn wsX6_goes := goodIn_r _ [11, 12, 62, 63, 64, 65, 66, 67, 68, 69, 70, 71, 72, 73, 74, 75, 76, 77, 78, 79, 80, 81, 82, 83] (by decide +kernel) (by decide +kernel)
set_option maxRecDepth 20000 in
theorem gX6_endsIn_X6_goes : GoodIn wsX6_endsIn (wsV RX6 56 RX6 yX6_goes wsX6_goes) := goodIn_app (goodIn_of _ (by decide +kernel)) ggX6_endsIn_X6_goes
set_option maxRecDepth 20000 in
theorem ggX6_endsIn_X6_rows : GoodIn wsX6_endsIn wsX6_rows := goodIn_r _ [16, 1, 2, 17, 18, 19, 6, 20, 21, 22, 23, 24, 25, 26, 27, 28, 29, 3, 30, 31, 32, 33, 34, 35, 36, 37, 38, 39, 40, 41, 42, 43, 44, 45, 46, 47, 48, 49, 50, 51, 52, 53, 54, 55, 56, 62, 63, 64, 65, 66, 67, 68, 69, 70, 71, 72, 73, 74, 75, 76, 77, 78, 79, 80, 81, 82, 83] (by decide +kernel) (by decide +kernel)
set_option maxRecDepth 20000 in
theorem gX6_endsIn_X6_rows : GoodIn wsX6_endsIn (wsV RX6 114 RX6 yX6_rows wsX6_rows) := goodIn_app (goodIn_of _ (by decide +kernel)) ggX6_endsIn_X6_rows
set_option maxRecDepth 20000 in
theorem ggX6_endsIn_X6_isOverNow : GoodIn wsX6_endsIn wsX6_isOverNow := goodIn_r _ [20, 2, 21, 22, 23, 24, 6, 25, 26, 27, 28, 29, 3, 30, 31, 32, 33, 34, 35, 36, 1, 37, 38, 39, 40, 41, 42, 43, 44, 45, 46, 47, 48, 49, 50, 51, 52, 53, 54, 55, 56, 62, 63, 64, 65, 66, 67, 68, 69, 70, 71, 72, 73, 74, 75, 76, 77, 78, 79, 80, 81, 82, 83] (by decide +kernel) (by decide +kernel)
set_option maxRecDepth 20000 in
theorem gX6_endsIn_X6_isOverNow : GoodIn wsX6_endsIn (wsV RX6 110 RX6 yX6_isOverNow wsX6_isOverNow) := goodIn_app (goodIn_of _ (by decide +kernel)) ggX6_endsIn_X6_isOverNow
set_option maxRecDepth 20000 in
theorem ggX6_endsIn_X6_weight : GoodIn wsX6_endsIn wsX6_weight := goodIn_r _ [60, 2, 1, 31, 61, 22, 23, 24, 6, 25, 26, 27, 28, 29, 21, 3, 30, 32, 33, 34, 35, 36, 37, 38, 39, 40, 41, 42, 43, 44, 45, 46, 47, 48, 49, 50, 51, 52, 53, 54, 55, 56, 62, 63, 64, 65, 66, 67, 68, 69, 70, 71, 72, 73, 74, 75, 76, 77, 78, 79, 80, 81, 82, 83] (by decide +kernel) (by decide +kernel)
set_option maxRecDepth 20000 in
theorem gX6_endsIn_X6_weight : GoodIn wsX6_endsIn (wsV RX6 117 RX6 yX6_weight wsX6_weight) := goodIn_app (goodIn_of _ (by decide +kernel)) ggX6_endsIn_X6_weight
theorem dX6_endsIn_0 : decode cX6_endsIn 0 = .ok (.aload_n 0, 1) := by decide +kernel
theorem dX6_endsIn_1 : decode cX6_endsIn 1 = .ok (.iload_n 1, 1) := by decide +kernel
theorem dX6_endsIn_2 : decode cX6_endsIn 2 = .ok (.iconst 1, 1) := by decide +kernel
theorem dX6_endsIn_3 : decode cX6_endsIn 3 = .ok (.aload_n 0, 1) := by decide +kernel
theorem dX6_endsIn_4 : decode cX6_endsIn 4 = .ok (.getfield 23, 3) := by decide +kernel
theorem dX6_endsIn_7 : decode cX6_endsIn 7 = .ok (.invokestatic 52, 3) := by decide +kernel
theorem dX6_endsIn_10 : decode cX6_endsIn 10 = .ok (.ifCond .eq 7, 3) := by decide +kernel
theorem dX6_endsIn_13 : decode cX6_endsIn 13 = .ok (.iconst 0, 1) := by decide +kernel
theorem dX6_endsIn_14 : decode cX6_endsIn 14 = .ok (.goto 4, 3) := by decide +kernel
theorem dX6_endsIn_17 : decode cX6_endsIn 17 = .ok (.iconst 1, 1) := by decide +kernel
theorem dX6_endsIn_18 : decode cX6_endsIn 18 = .ok (.invokevirtual 56, 3) := by decide +kernel
theorem dX6_endsIn_21 : decode cX6_endsIn 21 = .ok (.ifCond .ne 5, 3) := by decide +kernel
theorem dX6_endsIn_24 : decode cX6_endsIn 24 = .ok (.lconst 0, 1) := by decide +kernel
theorem dX6_endsIn_25 : decode cX6_endsIn 25 = .ok (.lreturn, 1) := by decide +kernel
theorem dX6_endsIn_26 : decode cX6_endsIn 26 = .ok (.lconst 0, 1) := by decide +kernel
theorem dX6_endsIn_27 : decode cX6_endsIn 27 = .ok (.lstore_n 2, 1) := by decide +kernel
theorem dX6_endsIn_28 : decode cX6_endsIn 28 = .ok (.iconst 0, 1) := by decide +kernel
theorem dX6_endsIn_29 : decode cX6_endsIn 29 = .ok (.istore 4, 2) := by decide +kernel
theorem dX6_endsIn_31 : decode cX6_endsIn 31 = .ok (.iload 4, 2) := by decide +kernel
theorem dX6_endsIn_33 : decode cX6_endsIn 33 = .ok (.aload_n 0, 1) := by decide +kernel
theorem dX6_endsIn_34 : decode cX6_endsIn 34 = .ok (.invokevirtual 114, 3) := by decide +kernel
theorem dX6_endsIn_37 : decode cX6_endsIn 37 = .ok (.if_icmp .ge 49, 3) := by decide +kernel
theorem dX6_endsIn_40 : decode cX6_endsIn 40 = .ok (.iload_n 1, 1) := by decide +kernel
theorem dX6_endsIn_41 : decode cX6_endsIn 41 = .ok (.aload_n 0, 1) := by decide +kernel
theorem dX6_endsIn_42 : decode cX6_endsIn 42 = .ok (.getfield 60, 3) := by decide +kernel
theorem dX6_endsIn_45 : decode cX6_endsIn 45 = .ok (.if_icmp .le 41, 3) := by decide +kernel
theorem dX6_endsIn_48 : decode cX6_endsIn 48 = .ok (.aload_n 0, 1) := by decide +kernel
theorem dX6_endsIn_49 : decode cX6_endsIn 49 = .ok (.invokevirtual 110, 3) := by decide +kernel
theorem dX6_endsIn_52 : decode cX6_endsIn 52 = .ok (.ifCond .ne 34, 3) := by decide +kernel
theorem dX6_endsIn_55 : decode cX6_endsIn 55 = .ok (.aload_n 0, 1) := by decide +kernel
theorem dX6_endsIn_56 : decode cX6_endsIn 56 = .ok (.iload 4, 2) := by decide +kernel
theorem dX6_endsIn_58 : decode cX6_endsIn 58 = .ok (.invokevirtual 117, 3) := by decide +kernel
theorem dX6_endsIn_61 : decode cX6_endsIn 61 = .ok (.lstore 5, 2) := by decide +kernel
theorem dX6_endsIn_63 : decode cX6_endsIn 63 = .ok (.lload_n 2, 1) := by decide +kernel
theorem dX6_endsIn_64 : decode cX6_endsIn 64 = .ok (.aload_n 0, 1) := by decide +kernel
theorem dX6_endsIn_65 : decode cX6_endsIn 65 = .ok (.getfield 80, 3) := by decide +kernel
theorem dX6_endsIn_68 : decode cX6_endsIn 68 = .ok (.iload_n 1, 1) := by decide +kernel
theorem dX6_endsIn_69 : decode cX6_endsIn 69 = .ok (.if_icmp .ne 8, 3) := by decide +kernel
theorem dX6_endsIn_72 : decode cX6_endsIn 72 = .ok (.lload 5, 2) := by decide +kernel
theorem dX6_endsIn_74 : decode cX6_endsIn 74 = .ok (.goto 4, 3) := by decide +kernel
theorem dX6_endsIn_77 : decode cX6_endsIn 77 = .ok (.lconst 0, 1) := by decide +kernel
theorem dX6_endsIn_78 : decode cX6_endsIn 78 = .ok (.ladd, 1) := by decide +kernel
theorem dX6_endsIn_79 : decode cX6_endsIn 79 = .ok (.lstore_n 2, 1) := by decide +kernel
theorem dX6_endsIn_80 : decode cX6_endsIn 80 = .ok (.iinc 4 1, 3) := by decide +kernel
theorem dX6_endsIn_83 : decode cX6_endsIn 83 = .ok (.goto (-52), 3) := by decide +kernel
theorem dX6_endsIn_86 : decode cX6_endsIn 86 = .ok (.lload_n 2, 1) := by decide +kernel
theorem dX6_endsIn_87 : decode cX6_endsIn 87 = .ok (.lreturn, 1) := by decide +kernel
set_option maxRecDepth 20000 in
theorem ggX6_knocks_X6_isOverNow : GoodIn wsX6_knocks wsX6_isOverNow := goodIn_r _ [7, 8, 9, 10, 11, 12, 6, 13, 14, 15, 16, 2, 17, 18, 19, 20, 21, 22, 23, 24, 25, 26, 27, 28, 29, 30, 31, 32, 33, 34, 35, 36, 37, 38, 39, 40, 41, 42, 43, 44, 45, 55, 56, 57, 58, 59, 60, 61, 62, 63, 64, 65, 66, 67, 68, 69, 70, 71, 72, 73, 74, 75, 76] (by decide +kernel) (by decide +kernel)
set_option maxRecDepth 20000 in
theorem gX6_knocks_X6_isOverNow : GoodIn wsX6_knocks (wsV RX6 110 RX6 yX6_isOverNow wsX6_isOverNow) := goodIn_app (goodIn_of _ (by decide +kernel)) ggX6_knocks_X6_isOverNow
set_option maxRecDepth 20000 in
theorem ggX6_knocks_X6_rows : GoodIn wsX6_knocks wsX6_rows := goodIn_r _ [49, 25, 8, 3, 4, 5, 6, 7, 9, 10, 11, 12, 13, 14, 15, 16, 2, 17, 18, 19, 20, 21, 22, 23, 24, 26, 27, 28, 29, 30, 31, 32, 33, 34, 35, 36, 37, 38, 39, 40, 41, 42, 43, 44, 45, 55, 56, 57, 58, 59, 60, 61, 62, 63, 64, 65, 66, 67, 68, 69, 70, 71, 72, 73, 74, 75, 76] (by decide +kernel) (by decide +kernel)
set_option maxRecDepth 20000 in
theorem gX6_knocks_X6_rows : GoodIn wsX6_knocks (wsV RX6 114 RX6 yX6_rows wsX6_rows) := goodIn_app (goodIn_of _ (by decide +kernel)) ggX6_knocks_X6_rows
set_option maxRecDepth 20000 in
theorem ggX6_knocks_X6_weight : GoodIn wsX6_knocks wsX6_weight := goodIn_r _ [53, 8, 25, 19, 54, 10, 11, 12, 6, 13, 14, 15, 16, 2, 9, 17, 18, 20, 21, 22, 23, 24, 26, 27, 28, 29, 30, 31, 32, 33, 34, 35, 36, 37, 38, 39, 40, 41, 42, 43, 44, 45, 55, 56, 57, 58, 59, 60, 61, 62, 63, 64, 65, 66, 67, 68, 69, 70, 71, 72, 73, 74, 75, 76] (by decide +kernel) (by decide +kernel)
set_option maxRecDepth 20000 in
theorem gX6_knocks_X6_weight : GoodIn wsX6_knocks (wsV RX6 117 RX6 yX6_weight wsX6_weight) := goodIn_app (goodIn_of _ (by decide +kernel)) ggX6_knocks_X6_weight
theorem dX6_knocks_0 : decode cX6_knocks 0 = .ok (.aload_n 0, 1) := by decide +kernel
theorem dX6_knocks_1 : decode cX6_knocks 1 = .ok (.iconst 0, 1) := by decide +kernel
theorem dX6_knocks_2 : decode cX6_knocks 2 = .ok (.putfield 49, 3) := by decide +kernel
theorem dX6_knocks_5 : decode cX6_knocks 5 = .ok (.aload_n 0, 1) := by decide +kernel
theorem dX6_knocks_6 : decode cX6_knocks 6 = .ok (.invokevirtual 110, 3) := by decide +kernel
theorem dX6_knocks_9 : decode cX6_knocks 9 = .ok (.ifCond .eq 16, 3) := by decide +kernel
theorem dX6_knocks_12 : decode cX6_knocks 12 = .ok (.aload_n 0, 1) := by decide +kernel
theorem dX6_knocks_13 : decode cX6_knocks 13 = .ok (.getfield 87, 3) := by decide +kernel
theorem dX6_knocks_16 : decode cX6_knocks 16 = .ok (.ifCond .eq 7, 3) := by decide +kernel
theorem dX6_knocks_19 : decode cX6_knocks 19 = .ok (.lconst 1, 1) := by decide +kernel
theorem dX6_knocks_20 : decode cX6_knocks 20 = .ok (.goto 4, 3) := by decide +kernel
theorem dX6_knocks_23 : decode cX6_knocks 23 = .ok (.lconst 0, 1) := by decide +kernel
theorem dX6_knocks_24 : decode cX6_knocks 24 = .ok (.lreturn, 1) := by decide +kernel
theorem dX6_knocks_25 : decode cX6_knocks 25 = .ok (.lconst 0, 1) := by decide +kernel
theorem dX6_knocks_26 : decode cX6_knocks 26 = .ok (.lstore_n 1, 1) := by decide +kernel
theorem dX6_knocks_27 : decode cX6_knocks 27 = .ok (.iconst 0, 1) := by decide +kernel
theorem dX6_knocks_28 : decode cX6_knocks 28 = .ok (.istore_n 3, 1) := by decide +kernel
theorem dX6_knocks_29 : decode cX6_knocks 29 = .ok (.iload_n 3, 1) := by decide +kernel
theorem dX6_knocks_30 : decode cX6_knocks 30 = .ok (.aload_n 0, 1) := by decide +kernel
theorem dX6_knocks_31 : decode cX6_knocks 31 = .ok (.invokevirtual 114, 3) := by decide +kernel
theorem dX6_knocks_34 : decode cX6_knocks 34 = .ok (.if_icmp .ge 32, 3) := by decide +kernel
theorem dX6_knocks_37 : decode cX6_knocks 37 = .ok (.aload_n 0, 1) := by decide +kernel
theorem dX6_knocks_38 : decode cX6_knocks 38 = .ok (.iload_n 3, 1) := by decide +kernel
theorem dX6_knocks_39 : decode cX6_knocks 39 = .ok (.invokevirtual 117, 3) := by decide +kernel
theorem dX6_knocks_42 : decode cX6_knocks 42 = .ok (.lstore 4, 2) := by decide +kernel
theorem dX6_knocks_44 : decode cX6_knocks 44 = .ok (.lload_n 1, 1) := by decide +kernel
theorem dX6_knocks_45 : decode cX6_knocks 45 = .ok (.aload_n 0, 1) := by decide +kernel
theorem dX6_knocks_46 : decode cX6_knocks 46 = .ok (.getfield 87, 3) := by decide +kernel
theorem dX6_knocks_49 : decode cX6_knocks 49 = .ok (.ifCond .eq 8, 3) := by decide +kernel
theorem dX6_knocks_52 : decode cX6_knocks 52 = .ok (.lload 4, 2) := by decide +kernel
theorem dX6_knocks_54 : decode cX6_knocks 54 = .ok (.goto 4, 3) := by decide +kernel
theorem dX6_knocks_57 : decode cX6_knocks 57 = .ok (.lconst 0, 1) := by decide +kernel
theorem dX6_knocks_58 : decode cX6_knocks 58 = .ok (.ladd, 1) := by decide +kernel
theorem dX6_knocks_59 : decode cX6_knocks 59 = .ok (.lstore_n 1, 1) := by decide +kernel
theorem dX6_knocks_60 : decode cX6_knocks 60 = .ok (.iinc 3 1, 3) := by decide +kernel
theorem dX6_knocks_63 : decode cX6_knocks 63 = .ok (.goto (-34), 3) := by decide +kernel
theorem dX6_knocks_66 : decode cX6_knocks 66 = .ok (.lload_n 1, 1) := by decide +kernel
theorem dX6_knocks_67 : decode cX6_knocks 67 = .ok (.lreturn, 1) := by decide +kernel
theorem dJ9_max_7cf53_0 : decode cJ9_max_7cf53 0 = .ok (.iload_n 0, 1) := by decide +kernel
theorem dJ9_max_7cf53_1 : decode cJ9_max_7cf53 1 = .ok (.iload_n 1, 1) := by decide +kernel
theorem dJ9_max_7cf53_2 : decode cJ9_max_7cf53 2 = .ok (.if_icmp .lt 7, 3) := by decide +kernel
theorem dJ9_max_7cf53_5 : decode cJ9_max_7cf53 5 = .ok (.iload_n 0, 1) := by decide +kernel
theorem dJ9_max_7cf53_6 : decode cJ9_max_7cf53 6 = .ok (.goto 4, 3) := by decide +kernel
theorem dJ9_max_7cf53_9 : decode cJ9_max_7cf53 9 = .ok (.iload_n 1, 1) := by decide +kernel
theorem dJ9_max_7cf53_10 : decode cJ9_max_7cf53 10 = .ok (.ireturn, 1) := by decide +kernel
theorem dJ9_min_7cf53_0 : decode cJ9_min_7cf53 0 = .ok (.iload_n 0, 1) := by decide +kernel
theorem dJ9_min_7cf53_1 : decode cJ9_min_7cf53 1 = .ok (.iload_n 1, 1) := by decide +kernel
theorem dJ9_min_7cf53_2 : decode cJ9_min_7cf53 2 = .ok (.if_icmp .gt 7, 3) := by decide +kernel
theorem dJ9_min_7cf53_5 : decode cJ9_min_7cf53 5 = .ok (.iload_n 0, 1) := by decide +kernel
theorem dJ9_min_7cf53_6 : decode cJ9_min_7cf53 6 = .ok (.goto 4, 3) := by decide +kernel
theorem dJ9_min_7cf53_9 : decode cJ9_min_7cf53 9 = .ok (.iload_n 1, 1) := by decide +kernel
theorem dJ9_min_7cf53_10 : decode cJ9_min_7cf53 10 = .ok (.ireturn, 1) := by decide +kernel
set_option maxRecDepth 20000 in
theorem ggL_setAsset_X5_setAsset : GoodIn wsL_setAsset wsX5_setAsset := goodIn_ca (goodIn_ca (goodIn_r _ [7, 8, 9, 10, 11, 12, 13, 14, 15, 16, 17, 18, 19, 20, 6, 21, 22, 23, 24, 25, 26, 27, 28, 29, 30, 31, 32, 33, 34, 35, 36, 37, 38, 39, 40, 41, 42, 43, 44, 45, 46, 47, 48, 49, 50, 51, 52, 53, 54, 55, 56, 57, 58, 59, 60, 61, 62, 63, 64, 65, 66, 67] (by decide +kernel) (by decide +kernel)) (goodIn_sub (fun _ h => List.mem_cons_of_mem _ (List.mem_append_left _ (List.mem_append_right _ h))) (by decide +kernel))) (goodIn_sub (fun _ h => List.mem_cons_of_mem _ (List.mem_append_right _ h)) (by decide +kernel))
set_option maxRecDepth 20000 in
theorem gL_setAsset_X5_setAsset : GoodIn wsL_setAsset (wsV RL 7 RX5 yX5_setAsset wsX5_setAsset) := goodIn_app (goodIn_of _ (by decide +kernel)) ggL_setAsset_X5_setAsset
theorem dL_setAsset_0 : decode cL_setAsset 0 = .ok (.aload_n 0, 1) := by decide +kernel
theorem dL_setAsset_1 : decode cL_setAsset 1 = .ok (.iload_n 1, 1) := by decide +kernel
theorem dL_setAsset_2 : decode cL_setAsset 2 = .ok (.iload_n 2, 1) := by decide +kernel
theorem dL_setAsset_3 : decode cL_setAsset 3 = .ok (.iload_n 3, 1) := by decide +kernel
theorem dL_setAsset_4 : decode cL_setAsset 4 = .ok (.iload 4, 2) := by decide +kernel
theorem dL_setAsset_6 : decode cL_setAsset 6 = .ok (.invokevirtual 7, 3) := by decide +kernel
theorem dL_setAsset_9 : decode cL_setAsset 9 = .ok (.goto 11, 3) := by decide +kernel
theorem dL_setAsset_12 : decode cL_setAsset 12 = .ok (.astore 5, 2) := by decide +kernel
theorem dL_setAsset_14 : decode cL_setAsset 14 = .ok (.iconst 1, 1) := by decide +kernel
theorem dL_setAsset_15 : decode cL_setAsset 15 = .ok (.ireturn, 1) := by decide +kernel
theorem dL_setAsset_16 : decode cL_setAsset 16 = .ok (.astore 5, 2) := by decide +kernel
theorem dL_setAsset_18 : decode cL_setAsset 18 = .ok (.iconst 2, 1) := by decide +kernel
theorem dL_setAsset_19 : decode cL_setAsset 19 = .ok (.ireturn, 1) := by decide +kernel
theorem dL_setAsset_20 : decode cL_setAsset 20 = .ok (.iconst 0, 1) := by decide +kernel
theorem dL_setAsset_21 : decode cL_setAsset 21 = .ok (.ireturn, 1) := by decide +kernel
set_option maxRecDepth 20000 in
theorem ggL_setMoves_X5_setMoves : GoodIn wsL_setMoves wsX5_setMoves := goodIn_ca (goodIn_r _ [6, 7, 8, 9, 10, 11, 12, 13, 14, 5, 15, 16, 17, 18, 19, 20, 21, 22, 23, 24, 25, 26, 27, 28, 29, 30, 31, 32, 33, 34, 35, 36, 37, 38, 39, 40, 41, 42, 43, 44, 45, 46, 47, 48, 49, 50, 51, 52, 53, 54, 55, 56, 57, 58] (by decide +kernel) (by decide +kernel)) (goodIn_sub (fun _ h => List.mem_cons_of_mem _ (List.mem_append_right _ h)) (by decide +kernel))
set_option maxRecDepth 20000 in
theorem gL_setMoves_X5_setMoves : GoodIn wsL_setMoves (wsV RL 17 RX5 yX5_setMoves wsX5_setMoves) := goodIn_app (goodIn_of _ (by decide +kernel)) ggL_setMoves_X5_setMoves
theorem dL_setMoves_0 : decode cL_setMoves 0 = .ok (.aload_n 0, 1) := by decide +kernel
theorem dL_setMoves_1 : decode cL_setMoves 1 = .ok (.iload_n 1, 1) := by decide +kernel
theorem dL_setMoves_2 : decode cL_setMoves 2 = .ok (.iload_n 2, 1) := by decide +kernel
theorem dL_setMoves_3 : decode cL_setMoves 3 = .ok (.invokevirtual 17, 3) := by decide +kernel
theorem dL_setMoves_6 : decode cL_setMoves 6 = .ok (.goto 6, 3) := by decide +kernel
theorem dL_setMoves_9 : decode cL_setMoves 9 = .ok (.astore_n 3, 1) := by decide +kernel
theorem dL_setMoves_10 : decode cL_setMoves 10 = .ok (.iconst 1, 1) := by decide +kernel
theorem dL_setMoves_11 : decode cL_setMoves 11 = .ok (.ireturn, 1) := by decide +kernel
theorem dL_setMoves_12 : decode cL_setMoves 12 = .ok (.iconst 0, 1) := by decide +kernel
theorem dL_setMoves_13 : decode cL_setMoves 13 = .ok (.ireturn, 1) := by decide +kernel
set_option maxRecDepth 20000 in
theorem ggL_setNote_X5_setNote : GoodIn wsL_setNote wsX5_setNote := goodIn_ca (goodIn_r _ [6, 7, 8, 9, 10, 11, 12, 13, 14, 15, 16, 17, 5, 18, 19, 20, 21, 22, 23, 24, 25, 26, 27, 28, 29, 30, 31, 32, 33, 34, 35, 36, 37, 38, 39, 40, 41, 42, 43, 44, 45, 46, 47, 48, 49, 50, 51, 52, 53, 54, 55, 56, 57, 58, 59, 60, 61] (by decide +kernel) (by decide +kernel)) (goodIn_sub (fun _ h => List.mem_cons_of_mem _ (List.mem_append_right _ h)) (by decide +kernel))
set_option maxRecDepth 20000 in
theorem gL_setNote_X5_setNote : GoodIn wsL_setNote (wsV RL 21 RX5 yX5_setNote wsX5_setNote) := goodIn_app (goodIn_of _ (by decide +kernel)) ggL_setNote_X5_setNote
theorem dL_setNote_0 : decode cL_setNote 0 = .ok (.aload_n 0, 1) := by decide +kernel
theorem dL_setNote_1 : decode cL_setNote 1 = .ok (.iload_n 1, 1) := by decide +kernel
theorem dL_setNote_2 : decode cL_setNote 2 = .ok (.iload_n 2, 1) := by decide +kernel
theorem dL_setNote_3 : decode cL_setNote 3 = .ok (.iload_n 3, 1) := by decide +kernel
theorem dL_setNote_4 : decode cL_setNote 4 = .ok (.iload 4, 2) := by decide +kernel
theorem dL_setNote_6 : decode cL_setNote 6 = .ok (.iload 5, 2) := by decide +kernel
theorem dL_setNote_8 : decode cL_setNote 8 = .ok (.invokevirtual 21, 3) := by decide +kernel
theorem dL_setNote_11 : decode cL_setNote 11 = .ok (.goto 7, 3) := by decide +kernel
theorem dL_setNote_14 : decode cL_setNote 14 = .ok (.astore 6, 2) := by decide +kernel
theorem dL_setNote_16 : decode cL_setNote 16 = .ok (.iconst 1, 1) := by decide +kernel
theorem dL_setNote_17 : decode cL_setNote 17 = .ok (.ireturn, 1) := by decide +kernel
theorem dL_setNote_18 : decode cL_setNote 18 = .ok (.iconst 0, 1) := by decide +kernel
theorem dL_setNote_19 : decode cL_setNote 19 = .ok (.ireturn, 1) := by decide +kernel
set_option maxRecDepth 20000 in
theorem ggL_tell_X5_tell : GoodIn wsL_tell wsX5_tell := goodIn_ca (goodIn_r _ [6, 7, 8, 9, 10, 11, 12, 13, 14, 15, 16, 17, 18, 19, 20, 21, 22, 23, 24, 25, 26, 27, 28, 29, 30, 31, 32, 33, 34, 35, 36, 37, 38, 39, 40, 41, 42, 43, 44, 45, 46, 47, 48, 49, 50, 51, 52, 53, 54, 55, 56, 57, 58, 59, 60, 61, 62, 63, 64, 65, 66, 67, 68, 69, 70, 71, 72, 73, 74, 75, 76, 77, 78, 79, 80, 81, 82, 83, 84, 85, 86, 87, 88, 89, 90, 91, 92, 93, 94, 95] (by decide +kernel) (by decide +kernel)) (goodIn_sub (fun _ h => List.mem_cons_of_mem _ (List.mem_append_right _ h)) (by decide +kernel))
set_option maxRecDepth 20000 in
theorem gL_tell_X5_tell : GoodIn wsL_tell (wsV RL 25 RX5 yX5_tell wsX5_tell) := goodIn_app (goodIn_of _ (by decide +kernel)) ggL_tell_X5_tell
theorem dL_tell_0 : decode cL_tell 0 = .ok (.aload_n 2, 1) := by decide +kernel
theorem dL_tell_1 : decode cL_tell 1 = .ok (.iconst 0, 1) := by decide +kernel
theorem dL_tell_2 : decode cL_tell 2 = .ok (.aload_n 0, 1) := by decide +kernel
theorem dL_tell_3 : decode cL_tell 3 = .ok (.iload_n 1, 1) := by decide +kernel
theorem dL_tell_4 : decode cL_tell 4 = .ok (.invokevirtual 25, 3) := by decide +kernel
theorem dL_tell_7 : decode cL_tell 7 = .ok (.i2l, 1) := by decide +kernel
theorem dL_tell_8 : decode cL_tell 8 = .ok (.lastore, 1) := by decide +kernel
theorem dL_tell_9 : decode cL_tell 9 = .ok (.goto 6, 3) := by decide +kernel
theorem dL_tell_12 : decode cL_tell 12 = .ok (.astore_n 3, 1) := by decide +kernel
theorem dL_tell_13 : decode cL_tell 13 = .ok (.iconst 1, 1) := by decide +kernel
theorem dL_tell_14 : decode cL_tell 14 = .ok (.ireturn, 1) := by decide +kernel
theorem dL_tell_15 : decode cL_tell 15 = .ok (.iconst 0, 1) := by decide +kernel
theorem dL_tell_16 : decode cL_tell 16 = .ok (.ireturn, 1) := by decide +kernel
set_option maxRecDepth 20000 in
theorem ggL_takeBack_X5_takeBack : GoodIn wsL_takeBack wsX5_takeBack := goodIn_ca (goodIn_r _ [6, 7, 8, 9, 10, 11, 12, 13, 14, 15, 16, 17, 18, 19, 20, 21, 22, 23, 24, 25, 26, 27, 28, 29, 30, 31, 5, 32, 33, 34, 35, 36, 37, 38, 39, 40, 41, 42, 43, 44, 45, 46, 47, 48, 49, 50, 51, 52, 53, 54, 55, 56, 57, 58, 59, 60, 61, 62, 63, 64, 65, 66, 67, 68, 69, 70, 71, 72, 73, 74, 75, 76, 77, 78, 79, 80, 81, 82, 83, 84, 85, 86, 87, 88, 89, 90, 91, 92, 93, 94, 95, 96, 97, 98, 99, 100, 101, 102] (by decide +kernel) (by decide +kernel)) (goodIn_sub (fun _ h => List.mem_cons_of_mem _ (List.mem_append_right _ h)) (by decide +kernel))
set_option maxRecDepth 20000 in
theorem gL_takeBack_X5_takeBack : GoodIn wsL_takeBack (wsV RL 31 RX5 yX5_takeBack wsX5_takeBack) := goodIn_app (goodIn_of _ (by decide +kernel)) ggL_takeBack_X5_takeBack
theorem dL_takeBack_0 : decode cL_takeBack 0 = .ok (.aload_n 1, 1) := by decide +kernel
theorem dL_takeBack_1 : decode cL_takeBack 1 = .ok (.iconst 0, 1) := by decide +kernel
theorem dL_takeBack_2 : decode cL_takeBack 2 = .ok (.aload_n 0, 1) := by decide +kernel
theorem dL_takeBack_3 : decode cL_takeBack 3 = .ok (.invokevirtual 31, 3) := by decide +kernel
theorem dL_takeBack_6 : decode cL_takeBack 6 = .ok (.i2l, 1) := by decide +kernel
theorem dL_takeBack_7 : decode cL_takeBack 7 = .ok (.lastore, 1) := by decide +kernel
theorem dL_takeBack_8 : decode cL_takeBack 8 = .ok (.goto 6, 3) := by decide +kernel
theorem dL_takeBack_11 : decode cL_takeBack 11 = .ok (.astore_n 2, 1) := by decide +kernel
theorem dL_takeBack_12 : decode cL_takeBack 12 = .ok (.iconst 1, 1) := by decide +kernel
theorem dL_takeBack_13 : decode cL_takeBack 13 = .ok (.ireturn, 1) := by decide +kernel
theorem dL_takeBack_14 : decode cL_takeBack 14 = .ok (.iconst 0, 1) := by decide +kernel
theorem dL_takeBack_15 : decode cL_takeBack 15 = .ok (.ireturn, 1) := by decide +kernel
set_option maxRecDepth 20000 in
theorem ggL_price_X5_price : GoodIn wsL_price wsX5_price := goodIn_ca (goodIn_r _ [6, 7, 8, 9, 10, 11, 12, 13, 5, 14, 15, 16, 17, 18, 19, 20, 21, 22, 23, 24, 25, 26, 27] (by decide +kernel) (by decide +kernel)) (goodIn_sub (fun _ h => List.mem_cons_of_mem _ (List.mem_append_right _ h)) (by decide +kernel))
set_option maxRecDepth 20000 in
theorem gL_price_X5_price : GoodIn wsL_price (wsV RL 35 RX5 yX5_price wsX5_price) := goodIn_app (goodIn_of _ (by decide +kernel)) ggL_price_X5_price
theorem dL_price_0 : decode cL_price 0 = .ok (.aload_n 2, 1) := by decide +kernel
theorem dL_price_1 : decode cL_price 1 = .ok (.iconst 0, 1) := by decide +kernel
theorem dL_price_2 : decode cL_price 2 = .ok (.aload_n 0, 1) := by decide +kernel
theorem dL_price_3 : decode cL_price 3 = .ok (.iload_n 1, 1) := by decide +kernel
theorem dL_price_4 : decode cL_price 4 = .ok (.invokevirtual 35, 3) := by decide +kernel
theorem dL_price_7 : decode cL_price 7 = .ok (.i2l, 1) := by decide +kernel
theorem dL_price_8 : decode cL_price 8 = .ok (.lastore, 1) := by decide +kernel
theorem dL_price_9 : decode cL_price 9 = .ok (.goto 6, 3) := by decide +kernel
theorem dL_price_12 : decode cL_price 12 = .ok (.astore_n 3, 1) := by decide +kernel
theorem dL_price_13 : decode cL_price 13 = .ok (.iconst 1, 1) := by decide +kernel
theorem dL_price_14 : decode cL_price 14 = .ok (.ireturn, 1) := by decide +kernel
theorem dL_price_15 : decode cL_price 15 = .ok (.iconst 0, 1) := by decide +kernel
theorem dL_price_16 : decode cL_price 16 = .ok (.ireturn, 1) := by decide +kernel
set_option maxRecDepth 20000 in
theorem ggL_endsIn_X5_endsIn : GoodIn wsL_endsIn wsX5_endsIn := goodIn_ca (goodIn_r _ [6, 7, 8, 9, 10, 11, 12, 13, 14, 5, 15, 16, 17, 18, 19, 20, 21, 22, 23, 24, 25, 26, 27, 28, 29, 30, 31, 32, 33, 34, 35, 36, 37, 38, 39, 40, 41, 42, 43, 44, 45, 46, 47, 48, 49, 50, 51, 52, 53, 54, 55, 56, 57, 58, 59, 60, 61, 62, 63, 64, 65, 66, 67, 68, 69, 70, 71, 72, 73, 74, 75, 76, 77, 78, 79, 80, 81, 82, 83, 84, 85, 86, 87, 88, 89, 90, 91, 92, 93, 94, 95, 96, 97, 98, 99, 100, 101, 102, 103, 104, 105, 106, 107, 108, 109, 110, 111, 112, 113, 114, 115, 116, 117, 118, 119, 120, 121, 122, 123, 124, 125, 126, 127, 128, 129, 130, 131, 132, 133, 134, 135, 136, 137, 138, 139, 140, 141, 142, 143, 144, 145, 146, 147, 148, 149, 150, 151, 152, 153, 154, 155, 156, 157, 158, 159, 160, 161, 162, 163, 164, 165, 166, 167, 168, 169, 170, 171, 172, 173, 174, 175, 176, 177, 178, 179, 180, 181, 182, 183, 184, 185, 186, 187, 188, 189, 190, 191, 192, 193, 194, 195, 196, 197, 198, 199, 200, 201, 202, 203] (by decide +kernel) (by decide +kernel)) (goodIn_sub (fun _ h => List.mem_cons_of_mem _ (List.mem_append_right _ h)) (by decide +kernel))
set_option maxRecDepth 20000 in
theorem gL_endsIn_X5_endsIn : GoodIn wsL_endsIn (wsV RL 39 RX5 yX5_endsIn wsX5_endsIn) := goodIn_app (goodIn_of _ (by decide +kernel)) ggL_endsIn_X5_endsIn
theorem dL_endsIn_0 : decode cL_endsIn 0 = .ok (.aload_n 2, 1) := by decide +kernel
theorem dL_endsIn_1 : decode cL_endsIn 1 = .ok (.iconst 0, 1) := by decide +kernel
theorem dL_endsIn_2 : decode cL_endsIn 2 = .ok (.aload_n 0, 1) := by decide +kernel
theorem dL_endsIn_3 : decode cL_endsIn 3 = .ok (.iload_n 1, 1) := by decide +kernel
theorem dL_endsIn_4 : decode cL_endsIn 4 = .ok (.invokevirtual 39, 3) := by decide +kernel
theorem dL_endsIn_7 : decode cL_endsIn 7 = .ok (.lastore, 1) := by decide +kernel
theorem dL_endsIn_8 : decode cL_endsIn 8 = .ok (.goto 6, 3) := by decide +kernel
theorem dL_endsIn_11 : decode cL_endsIn 11 = .ok (.astore_n 3, 1) := by decide +kernel
theorem dL_endsIn_12 : decode cL_endsIn 12 = .ok (.iconst 1, 1) := by decide +kernel
theorem dL_endsIn_13 : decode cL_endsIn 13 = .ok (.ireturn, 1) := by decide +kernel
theorem dL_endsIn_14 : decode cL_endsIn 14 = .ok (.iconst 0, 1) := by decide +kernel
theorem dL_endsIn_15 : decode cL_endsIn 15 = .ok (.ireturn, 1) := by decide +kernel
set_option maxRecDepth 20000 in
theorem ggL_law_X5_init : GoodIn wsL_law wsX5_init := goodIn_r _ [9, 10, 11, 12, 13, 14, 15, 16, 17, 18, 19, 20, 21, 22, 23, 24, 25, 26, 27, 28, 29, 30, 31, 32, 33, 34, 35, 36, 37, 38, 39, 40, 41, 42, 43, 44, 45, 46, 47, 48, 49, 50, 51, 52, 53, 54, 55, 56, 57, 58, 59, 60, 61, 62, 63, 64, 65, 6, 66, 67, 68, 69, 70, 71, 72, 73, 74, 75, 76, 77, 78, 79, 80, 81, 82, 83, 84, 85, 86, 87, 88, 89, 561, 562, 563, 564, 565, 566, 567, 568, 569, 570, 571, 534, 535, 536, 537, 538, 572, 573, 574, 575, 576, 577, 578, 579, 580, 581, 582, 583, 584, 585, 586, 587, 588, 589, 590, 591, 592, 593, 594, 595, 596, 597, 598, 599] (by decide +kernel) (by decide +kernel)
set_option maxRecDepth 20000 in
theorem gL_law_X5_init : GoodIn wsL_law (wsX5_init) := ggL_law_X5_init
set_option maxRecDepth 20000 in
theorem ggL_law_X6_init : GoodIn wsL_law wsX6_init := goodIn_r _ [92, 93, 11, 12, 80, 94, 95, 96, 97, 98, 99, 100, 101, 102, 84, 103, 104, 6, 105, 539, 540, 541, 542, 543, 544, 545, 546, 547, 548, 549, 550, 551, 552, 553, 554, 555, 556, 557, 558, 559, 560] (by decide +kernel) (by decide +kernel)
set_option maxRecDepth 20000 in
theorem gL_law_X6_init : GoodIn wsL_law (wsX6_init) := ggL_law_X6_init
set_option maxRecDepth 20000 in
theorem ggL_law_L_setAsset : GoodIn wsL_law wsL_setAsset := goodIn_ca (goodIn_ca (goodIn_r _ [109, 110, 111, 112, 113, 114, 2, 115, 116, 117, 118, 119, 16, 120, 121, 122, 123, 124, 20, 125, 126, 127, 128, 129, 130, 131, 132, 133, 19, 134, 53, 135, 136, 54, 137, 55, 56, 57, 58, 59, 60, 534, 535, 536, 537, 538, 561, 562, 563, 564, 565, 566, 567, 568, 569, 570, 571, 589, 590, 591, 572, 573, 574, 575, 576, 577, 578, 579] (by decide +kernel) (by decide +kernel)) (goodIn_sub (fun _ h => List.mem_append_left _ (List.mem_append_left _ (List.mem_append_right _ h))) (by decide +kernel))) (goodIn_sub (fun _ h => List.mem_append_left _ (List.mem_append_right _ h)) (by decide +kernel))
set_option maxRecDepth 20000 in
theorem gL_law_L_setAsset : GoodIn wsL_law (va_wsS RL 47 yL_setAsset wsL_setAsset) := goodIn_app (goodIn_of _ (by decide +kernel)) ggL_law_L_setAsset
set_option maxRecDepth 20000 in
theorem ggL_law_X6_setAsset : GoodIn wsL_law wsX6_setAsset := goodIn_r _ [141, 94, 95, 96, 142, 143, 144, 5, 145, 146, 147, 148, 149, 150, 539, 540, 541, 542, 543, 544, 545, 546, 547, 548, 549, 550, 551, 552, 553, 554, 555, 556, 557, 558, 559, 560] (by decide +kernel) (by decide +kernel)
set_option maxRecDepth 20000 in
theorem gL_law_X6_setAsset : GoodIn wsL_law (wsV RL 52 RX6 yX6_setAsset wsX6_setAsset) := goodIn_app (goodIn_of _ (by decide +kernel)) ggL_law_X6_setAsset
set_option maxRecDepth 20000 in
theorem ggL_law_X6_thrown : GoodIn wsL_law wsX6_thrown := goodIn_r _ [154, 150, 539, 540, 541, 542, 543, 544, 545, 546, 547, 548, 549, 550, 551, 552, 553, 554, 555, 556, 557, 558, 559, 560] (by decide +kernel) (by decide +kernel)
set_option maxRecDepth 20000 in
theorem gL_law_X6_thrown : GoodIn wsL_law (wsV RL 53 RX6 yX6_thrown wsX6_thrown) := goodIn_app (goodIn_of _ (by decide +kernel)) ggL_law_X6_thrown
set_option maxRecDepth 20000 in
theorem ggL_law_L_setMoves : GoodIn wsL_law wsL_setMoves := goodIn_ca (goodIn_r _ [157, 111, 158, 159, 160, 2, 161, 118, 119, 16, 162, 163, 20, 128, 129, 130, 131, 132, 133, 19, 134, 53, 135, 136, 54, 137, 55, 56, 57, 58, 59, 60, 534, 535, 536, 537, 538, 561, 562, 563, 564, 565, 566, 567, 568, 569, 570, 571, 572, 573, 574, 575, 576, 577, 578, 579, 589, 590, 591] (by decide +kernel) (by decide +kernel)) (goodIn_sub (fun _ h => List.mem_append_left _ (List.mem_append_right _ h)) (by decide +kernel))
set_option maxRecDepth 20000 in
theorem gL_law_L_setMoves : GoodIn wsL_law (va_wsS RL 56 yL_setMoves wsL_setMoves) := goodIn_app (goodIn_of _ (by decide +kernel)) ggL_law_L_setMoves
set_option maxRecDepth 20000 in
theorem ggL_law_X6_setMoves : GoodIn wsL_law wsX6_setMoves := goodIn_r _ [167, 168, 97, 142, 143, 144, 5, 145, 146, 147, 148, 149, 150, 539, 540, 541, 542, 543, 544, 545, 546, 547, 548, 549, 550, 551, 552, 553, 554, 555, 556, 557, 558, 559, 560] (by decide +kernel) (by decide +kernel)
set_option maxRecDepth 20000 in
theorem gL_law_X6_setMoves : GoodIn wsL_law (wsV RL 59 RX6 yX6_setMoves wsX6_setMoves) := goodIn_app (goodIn_of _ (by decide +kernel)) ggL_law_X6_setMoves
set_option maxRecDepth 20000 in
theorem ggL_law_L_setNote : GoodIn wsL_law wsL_setNote := goodIn_ca (goodIn_r _ [171, 111, 172, 173, 174, 2, 175, 118, 119, 16, 176, 177, 178, 179, 180, 20, 128, 129, 130, 131, 132, 133, 19, 134, 53, 135, 136, 54, 137, 55, 56, 57, 58, 59, 60, 534, 535, 536, 537, 538, 561, 562, 563, 564, 565, 566, 567, 568, 569, 570, 571, 572, 573, 574, 575, 576, 577, 578, 579, 589, 590, 591] (by decide +kernel) (by decide +kernel)) (goodIn_sub (fun _ h => List.mem_append_left _ (List.mem_append_right _ h)) (by decide +kernel))
set_option maxRecDepth 20000 in
theorem gL_law_L_setNote : GoodIn wsL_law (va_wsS RL 60 yL_setNote wsL_setNote) := goodIn_app (goodIn_of _ (by decide +kernel)) ggL_law_L_setNote
set_option maxRecDepth 20000 in
theorem ggL_law_X6_setNote : GoodIn wsL_law wsX6_setNote := goodIn_r _ [184, 98, 99, 100, 101, 102, 142, 143, 144, 5, 145, 146, 147, 148, 149, 150, 539, 540, 541, 542, 543, 544, 545, 546, 547, 548, 549, 550, 551, 552, 553, 554, 555, 556, 557, 558, 559, 560] (by decide +kernel) (by decide +kernel)
set_option maxRecDepth 20000 in
theorem gL_law_X6_setNote : GoodIn wsL_law (wsV RL 63 RX6 yX6_setNote wsX6_setNote) := goodIn_app (goodIn_of _ (by decide +kernel)) ggL_law_X6_setNote
set_option maxRecDepth 20000 in
theorem ggL_law_X5_setKind : GoodIn wsL_law wsX5_setKind := goodIn_r _ [188, 16, 189, 190, 20, 131, 132, 133, 19, 134, 53, 135, 136, 54, 137, 55, 56, 57, 58, 59, 60, 534, 535, 536, 537, 538, 561, 562, 563, 564, 565, 566, 567, 568, 569, 570, 571, 572, 573, 574, 575, 576, 577, 578, 579, 589, 590, 591] (by decide +kernel) (by decide +kernel)
set_option maxRecDepth 20000 in
theorem gL_law_X5_setKind : GoodIn wsL_law (wsV RL 64 RX5 yX5_setKind wsX5_setKind) := goodIn_app (goodIn_of _ (by decide +kernel)) ggL_law_X5_setKind
set_option maxRecDepth 20000 in
theorem ggL_law_X6_setKind : GoodIn wsL_law wsX6_setKind := goodIn_r _ [194, 150, 195, 196, 142, 539, 540, 541, 542, 543, 544, 545, 546, 547, 548, 549, 550, 551, 552, 553, 554, 555, 556, 557, 558, 559, 560] (by decide +kernel) (by decide +kernel)
set_option maxRecDepth 20000 in
theorem gL_law_X6_setKind : GoodIn wsL_law (wsV RL 68 RX6 yX6_setKind wsX6_setKind) := goodIn_app (goodIn_of _ (by decide +kernel)) ggL_law_X6_setKind
set_option maxRecDepth 20000 in
theorem ggL_law_L_tell : GoodIn wsL_law wsL_tell := goodIn_ca (goodIn_r _ [199, 200, 201, 202, 203, 2, 204, 205, 206, 20, 207, 208, 26, 16, 209, 210, 211, 212, 19, 213, 53, 135, 54, 137, 55, 214, 215, 216, 217, 57, 59, 218, 58, 60, 219, 220, 221, 32, 222, 48, 49, 223, 224, 225, 226, 227, 228, 229, 230, 231, 232, 233, 234, 235, 236, 237, 47, 238, 239, 240, 241, 242, 56, 243, 244, 245, 246, 247, 248, 534, 535, 536, 537, 538, 572, 573, 574, 575, 576, 577, 578, 579, 561, 562, 563, 564, 565, 566, 567, 568, 569, 570, 571, 589, 590, 591] (by decide +kernel) (by decide +kernel)) (goodIn_sub (fun _ h => List.mem_append_right _ h) (by decide +kernel))
set_option maxRecDepth 20000 in
theorem gL_law_L_tell : GoodIn wsL_law (va_wsS RL 69 yL_tell wsL_tell) := goodIn_app (goodIn_of _ (by decide +kernel)) ggL_law_L_tell
set_option maxRecDepth 20000 in
theorem ggL_law_X6_tell : GoodIn wsL_law wsX6_tell := goodIn_r _ [252, 142, 253, 103, 254, 255, 256, 5, 257, 258, 259, 260, 261, 262, 104, 94, 263, 264, 265, 266, 267, 268, 269, 168, 98, 99, 195, 100, 102, 196, 101, 270, 271, 272, 273, 95, 96, 274, 275, 276, 277, 278, 279, 280, 281, 146, 147, 148, 149, 150, 539, 540, 541, 542, 543, 544, 545, 546, 547, 548, 549, 550, 551, 552, 553, 554, 555, 556, 557, 558, 559, 560] (by decide +kernel) (by decide +kernel)
set_option maxRecDepth 20000 in
theorem gL_law_X6_tell : GoodIn wsL_law (wsV RL 72 RX6 yX6_tell wsX6_tell) := goodIn_app (goodIn_of _ (by decide +kernel)) ggL_law_X6_tell
set_option maxRecDepth 20000 in
theorem ggL_law_L_takeBack : GoodIn wsL_law wsL_takeBack := goodIn_ca (goodIn_r _ [284, 200, 285, 286, 287, 2, 288, 205, 206, 20, 208, 209, 16, 26, 131, 132, 133, 19, 134, 53, 135, 136, 54, 137, 55, 56, 57, 58, 59, 60, 289, 290, 291, 210, 211, 212, 213, 214, 215, 216, 217, 218, 219, 220, 221, 32, 222, 48, 49, 223, 224, 225, 226, 227, 228, 229, 230, 231, 232, 233, 234, 235, 236, 237, 47, 238, 239, 240, 241, 242, 243, 244, 245, 246, 247, 248, 534, 535, 536, 537, 538, 572, 573, 574, 575, 576, 577, 578, 579, 561, 562, 563, 564, 565, 566, 567, 568, 569, 570, 571, 589, 590, 591] (by decide +kernel) (by decide +kernel)) (goodIn_sub (fun _ h => List.mem_append_right _ h) (by decide +kernel))
set_option maxRecDepth 20000 in
theorem gL_law_L_takeBack : GoodIn wsL_law (va_wsS RL 73 yL_takeBack wsL_takeBack) := goodIn_app (goodIn_of _ (by decide +kernel)) ggL_law_L_takeBack
set_option maxRecDepth 20000 in
theorem ggL_law_X6_takeBack : GoodIn wsL_law wsX6_takeBack := goodIn_r _ [295, 142, 146, 147, 148, 5, 149, 150, 254, 255, 256, 257, 258, 259, 260, 261, 262, 104, 94, 263, 264, 253, 265, 103, 266, 267, 268, 269, 168, 98, 99, 195, 100, 102, 196, 101, 270, 271, 272, 273, 95, 96, 274, 275, 276, 277, 278, 279, 280, 281, 539, 540, 541, 542, 543, 544, 545, 546, 547, 548, 549, 550, 551, 552, 553, 554, 555, 556, 557, 558, 559, 560] (by decide +kernel) (by decide +kernel)
set_option maxRecDepth 20000 in
theorem gL_law_X6_takeBack : GoodIn wsL_law (wsV RL 76 RX6 yX6_takeBack wsX6_takeBack) := goodIn_app (goodIn_of _ (by decide +kernel)) ggL_law_X6_takeBack
set_option maxRecDepth 20000 in
theorem ggL_law_X5_told : GoodIn wsL_law wsX5_told := goodIn_r _ [299, 20, 208, 534, 535, 536, 537, 538, 572, 573, 574, 575, 576, 577, 578, 579] (by decide +kernel) (by decide +kernel)
set_option maxRecDepth 20000 in
theorem gL_law_X5_told : GoodIn wsL_law (wsV RL 77 RX5 yX5_told wsX5_told) := goodIn_app (goodIn_of _ (by decide +kernel)) ggL_law_X5_told
set_option maxRecDepth 20000 in
theorem ggL_law_X6_told : GoodIn wsL_law wsX6_told := goodIn_r _ [303, 150, 142, 539, 540, 541, 542, 543, 544, 545, 546, 547, 548, 549, 550, 551, 552, 553, 554, 555, 556, 557, 558, 559, 560] (by decide +kernel) (by decide +kernel)
set_option maxRecDepth 20000 in
theorem gL_law_X6_told : GoodIn wsL_law (wsV RL 80 RX6 yX6_told wsX6_told) := goodIn_app (goodIn_of _ (by decide +kernel)) ggL_law_X6_told
set_option maxRecDepth 20000 in
theorem ggL_law_L_price : GoodIn wsL_law wsL_price := goodIn_ca (goodIn_r _ [306, 110, 307, 308, 309, 2, 310, 116, 117, 20, 311, 312, 125, 126, 127, 534, 535, 536, 537, 538, 572, 573, 574, 575, 576, 577, 578, 579] (by decide +kernel) (by decide +kernel)) (goodIn_sub (fun _ h => List.mem_append_left _ (List.mem_append_left _ (List.mem_append_right _ h))) (by decide +kernel))
set_option maxRecDepth 20000 in
theorem gL_law_L_price : GoodIn wsL_law (va_wsS RL 81 yL_price wsL_price) := goodIn_app (goodIn_of _ (by decide +kernel)) ggL_law_L_price
set_option maxRecDepth 20000 in
theorem ggL_law_X6_price : GoodIn wsL_law wsX6_price := goodIn_r _ [316, 142, 104, 259, 260, 261, 5, 262, 94, 263, 264, 253, 265, 258, 103, 266, 267, 268, 269, 168, 98, 99, 195, 100, 102, 196, 101, 270, 271, 272, 273, 95, 96, 274, 275, 276, 277, 278, 279, 280, 281, 143, 144, 145, 146, 147, 148, 149, 150, 539, 540, 541, 542, 543, 544, 545, 546, 547, 548, 549, 550, 551, 552, 553, 554, 555, 556, 557, 558, 559, 560] (by decide +kernel) (by decide +kernel)
set_option maxRecDepth 20000 in
theorem gL_law_X6_price : GoodIn wsL_law (wsV RL 84 RX6 yX6_price wsX6_price) := goodIn_app (goodIn_of _ (by decide +kernel)) ggL_law_X6_price
set_option maxRecDepth 20000 in
theorem ggL_law_X5_worst : GoodIn wsL_law wsX5_worst := goodIn_r _ [320, 20, 16, 321, 228, 229, 19, 230, 135, 54, 137, 55, 231, 232, 225, 233, 234, 235, 236, 32, 237, 47, 534, 535, 536, 537, 538, 561, 562, 563, 564, 565, 566, 567, 568, 569, 570, 571, 572, 573, 574, 575, 576, 577, 578, 579, 589, 590, 591] (by decide +kernel) (by decide +kernel)
set_option maxRecDepth 20000 in
theorem gL_law_X5_worst : GoodIn wsL_law (wsV RL 85 RX5 yX5_worst wsX5_worst) := goodIn_app (goodIn_of _ (by decide +kernel)) ggL_law_X5_worst
set_option maxRecDepth 20000 in
theorem ggL_law_X6_worst : GoodIn wsL_law wsX6_worst := goodIn_r _ [325, 150, 142, 259, 260, 261, 5, 262, 104, 94, 263, 264, 253, 265, 258, 103, 266, 267, 268, 269, 168, 98, 99, 195, 100, 102, 196, 101, 270, 271, 272, 273, 95, 96, 274, 275, 276, 277, 278, 279, 280, 281, 539, 540, 541, 542, 543, 544, 545, 546, 547, 548, 549, 550, 551, 552, 553, 554, 555, 556, 557, 558, 559, 560] (by decide +kernel) (by decide +kernel)
set_option maxRecDepth 20000 in
theorem gL_law_X6_worst : GoodIn wsL_law (wsV RL 88 RX6 yX6_worst wsX6_worst) := goodIn_app (goodIn_of _ (by decide +kernel)) ggL_law_X6_worst
set_option maxRecDepth 20000 in
theorem ggL_law_X5_isKnocked : GoodIn wsL_law wsX5_isKnocked := goodIn_r _ [329, 20, 330, 534, 535, 536, 537, 538, 572, 573, 574, 575, 576, 577, 578, 579] (by decide +kernel) (by decide +kernel)
set_option maxRecDepth 20000 in
theorem gL_law_X5_isKnocked : GoodIn wsL_law (wsV RL 89 RX5 yX5_isKnocked wsX5_isKnocked) := goodIn_app (goodIn_of _ (by decide +kernel)) ggL_law_X5_isKnocked
set_option maxRecDepth 20000 in
theorem ggL_law_X6_isKnocked : GoodIn wsL_law wsX6_isKnocked := goodIn_r _ [334, 150, 142, 264, 259, 260, 261, 5, 262, 104, 94, 263, 253, 265, 258, 103, 266, 267, 268, 269, 168, 98, 99, 195, 100, 102, 196, 101, 270, 271, 272, 273, 95, 96, 274, 275, 276, 277, 278, 279, 280, 281, 539, 540, 541, 542, 543, 544, 545, 546, 547, 548, 549, 550, 551, 552, 553, 554, 555, 556, 557, 558, 559, 560] (by decide +kernel) (by decide +kernel)
set_option maxRecDepth 20000 in
theorem gL_law_X6_isKnocked : GoodIn wsL_law (wsV RL 93 RX6 yX6_isKnocked wsX6_isKnocked) := goodIn_app (goodIn_of _ (by decide +kernel)) ggL_law_X6_isKnocked
set_option maxRecDepth 20000 in
theorem ggL_law_X5_missed : GoodIn wsL_law wsX5_missed := goodIn_r _ [338, 20, 339, 534, 535, 536, 537, 538, 572, 573, 574, 575, 576, 577, 578, 579] (by decide +kernel) (by decide +kernel)
set_option maxRecDepth 20000 in
theorem gL_law_X5_missed : GoodIn wsL_law (wsV RL 94 RX5 yX5_missed wsX5_missed) := goodIn_app (goodIn_of _ (by decide +kernel)) ggL_law_X5_missed
set_option maxRecDepth 20000 in
theorem ggL_law_X6_missed : GoodIn wsL_law wsX6_missed := goodIn_r _ [343, 150, 142, 263, 259, 260, 261, 5, 262, 104, 94, 264, 253, 265, 258, 103, 266, 267, 268, 269, 168, 98, 99, 195, 100, 102, 196, 101, 270, 271, 272, 273, 95, 96, 274, 275, 276, 277, 278, 279, 280, 281, 539, 540, 541, 542, 543, 544, 545, 546, 547, 548, 549, 550, 551, 552, 553, 554, 555, 556, 557, 558, 559, 560] (by decide +kernel) (by decide +kernel)
set_option maxRecDepth 20000 in
theorem gL_law_X6_missed : GoodIn wsL_law (wsV RL 97 RX6 yX6_missed wsX6_missed) := goodIn_app (goodIn_of _ (by decide +kernel)) ggL_law_X6_missed
set_option maxRecDepth 20000 in
theorem ggL_law_X5_paid : GoodIn wsL_law wsX5_paid := goodIn_r _ [347, 20, 348, 534, 535, 536, 537, 538, 572, 573, 574, 575, 576, 577, 578, 579] (by decide +kernel) (by decide +kernel)
set_option maxRecDepth 20000 in
theorem gL_law_X5_paid : GoodIn wsL_law (wsV RL 98 RX5 yX5_paid wsX5_paid) := goodIn_app (goodIn_of _ (by decide +kernel)) ggL_law_X5_paid
set_option maxRecDepth 20000 in
theorem ggL_law_X6_paid : GoodIn wsL_law wsX6_paid := goodIn_r _ [352, 150, 142, 254, 255, 256, 5, 257, 258, 259, 260, 261, 262, 104, 94, 263, 264, 253, 265, 103, 266, 267, 268, 269, 168, 98, 99, 195, 100, 102, 196, 101, 270, 271, 272, 273, 95, 96, 274, 275, 276, 277, 278, 279, 280, 281, 539, 540, 541, 542, 543, 544, 545, 546, 547, 548, 549, 550, 551, 552, 553, 554, 555, 556, 557, 558, 559, 560] (by decide +kernel) (by decide +kernel)
set_option maxRecDepth 20000 in
theorem gL_law_X6_paid : GoodIn wsL_law (wsV RL 101 RX6 yX6_paid wsX6_paid) := goodIn_app (goodIn_of _ (by decide +kernel)) ggL_law_X6_paid
set_option maxRecDepth 20000 in
theorem ggL_law_X5_isOver : GoodIn wsL_law wsX5_isOver := goodIn_r _ [356, 20, 207, 534, 535, 536, 537, 538, 572, 573, 574, 575, 576, 577, 578, 579] (by decide +kernel) (by decide +kernel)
set_option maxRecDepth 20000 in
theorem gL_law_X5_isOver : GoodIn wsL_law (wsV RL 102 RX5 yX5_isOver wsX5_isOver) := goodIn_app (goodIn_of _ (by decide +kernel)) ggL_law_X5_isOver
set_option maxRecDepth 20000 in
theorem ggL_law_X6_isOver : GoodIn wsL_law wsX6_isOver := goodIn_r _ [360, 150, 361, 362, 363, 5, 364, 142, 253, 259, 260, 261, 262, 104, 94, 263, 264, 265, 258, 103, 266, 267, 268, 269, 168, 98, 99, 195, 100, 102, 196, 101, 270, 271, 272, 273, 95, 96, 274, 275, 276, 277, 278, 279, 280, 281, 539, 540, 541, 542, 543, 544, 545, 546, 547, 548, 549, 550, 551, 552, 553, 554, 555, 556, 557, 558, 559, 560] (by decide +kernel) (by decide +kernel)
set_option maxRecDepth 20000 in
theorem gL_law_X6_isOver : GoodIn wsL_law (wsV RL 105 RX6 yX6_isOver wsX6_isOver) := goodIn_app (goodIn_of _ (by decide +kernel)) ggL_law_X6_isOver
set_option maxRecDepth 20000 in
theorem ggL_law_X5_worth : GoodIn wsL_law wsX5_worth := goodIn_r _ [368, 25, 16, 20, 369, 370, 371, 372, 24, 373, 374, 375, 73, 74, 75, 70, 376, 377, 378, 379, 380, 381, 382, 66, 72, 76, 383, 384, 385, 69, 386, 86, 87, 387, 232, 225, 233, 88, 388, 224, 226, 89, 81, 389, 82, 390, 83, 391, 85, 392, 393, 394, 395, 396, 397, 398, 399, 400, 401, 402, 403, 404, 71, 405, 406, 407, 408, 65, 409, 410, 411, 412, 413, 414, 415, 416, 417, 418, 419, 420, 421, 422, 211, 212, 19, 213, 53, 135, 54, 137, 55, 214, 215, 216, 217, 57, 59, 218, 58, 60, 219, 220, 221, 32, 222, 48, 49, 223, 227, 228, 229, 230, 231, 234, 235, 236, 237, 47, 238, 239, 240, 241, 242, 56, 243, 244, 245, 246, 247, 248, 423, 424, 425, 15, 426, 36, 427, 2, 428, 429, 430, 431, 432, 433, 434, 435, 534, 535, 536, 537, 538, 580, 581, 582, 583, 584, 585, 586, 587, 588, 572, 573, 574, 575, 576, 577, 578, 579, 592, 593, 594, 595, 596, 597, 598, 599, 561, 562, 563, 564, 565, 566, 567, 568, 569, 570, 571, 589, 590, 591] (by decide +kernel) (by decide +kernel)
set_option maxRecDepth 20000 in
theorem gL_law_X5_worth : GoodIn wsL_law (wsV RL 106 RX5 yX5_worth wsX5_worth) := goodIn_app (goodIn_of _ (by decide +kernel)) ggL_law_X5_worth
set_option maxRecDepth 20000 in
theorem ggL_law_X6_worth : GoodIn wsL_law wsX6_worth := goodIn_r _ [439, 150, 361, 362, 363, 5, 364, 142, 253, 259, 260, 261, 262, 104, 94, 263, 264, 265, 258, 103, 266, 267, 268, 269, 168, 98, 99, 195, 100, 102, 196, 101, 270, 271, 272, 273, 95, 96, 274, 275, 276, 277, 278, 279, 280, 281, 440, 441, 442, 443, 254, 255, 256, 257, 444, 445, 446, 447, 448, 449, 450, 451, 97, 539, 540, 541, 542, 543, 544, 545, 546, 547, 548, 549, 550, 551, 552, 553, 554, 555, 556, 557, 558, 559, 560] (by decide +kernel) (by decide +kernel)
set_option maxRecDepth 20000 in
theorem gL_law_X6_worth : GoodIn wsL_law (wsV RL 110 RX6 yX6_worth wsX6_worth) := goodIn_app (goodIn_of _ (by decide +kernel)) ggL_law_X6_worth
set_option maxRecDepth 20000 in
theorem ggL_law_X5_worthByPaths : GoodIn wsL_law wsX5_worthByPaths := goodIn_r _ [455, 20, 207, 16, 176, 208, 456, 457, 458, 2, 459, 21, 429, 348, 460, 461, 462, 19, 463, 53, 54, 55, 56, 57, 58, 59, 60, 289, 290, 291, 464, 424, 425, 15, 426, 36, 210, 211, 212, 213, 135, 137, 214, 215, 216, 217, 218, 219, 220, 221, 32, 222, 48, 49, 223, 224, 225, 226, 227, 228, 229, 230, 231, 232, 233, 234, 235, 236, 237, 47, 238, 239, 240, 241, 242, 243, 244, 245, 246, 247, 248, 534, 535, 536, 537, 538, 572, 573, 574, 575, 576, 577, 578, 579, 561, 562, 563, 564, 565, 566, 567, 568, 569, 570, 571, 589, 590, 591] (by decide +kernel) (by decide +kernel)
set_option maxRecDepth 20000 in
theorem gL_law_X5_worthByPaths : GoodIn wsL_law (wsV RL 111 RX5 yX5_worthByPaths wsX5_worthByPaths) := goodIn_app (goodIn_of _ (by decide +kernel)) ggL_law_X5_worthByPaths
set_option maxRecDepth 20000 in
theorem ggL_law_X6_worthByPaths : GoodIn wsL_law wsX6_worthByPaths := goodIn_r _ [468, 150, 361, 362, 363, 5, 364, 142, 253, 259, 260, 261, 262, 104, 94, 263, 264, 265, 258, 103, 266, 267, 268, 269, 168, 98, 99, 195, 100, 102, 196, 101, 270, 271, 272, 273, 95, 96, 274, 275, 276, 277, 278, 279, 280, 281, 440, 441, 442, 443, 254, 255, 256, 257, 444, 445, 446, 447, 448, 449, 450, 451, 97, 539, 540, 541, 542, 543, 544, 545, 546, 547, 548, 549, 550, 551, 552, 553, 554, 555, 556, 557, 558, 559, 560] (by decide +kernel) (by decide +kernel)
set_option maxRecDepth 20000 in
theorem gL_law_X6_worthByPaths : GoodIn wsL_law (wsV RL 114 RX6 yX6_worthByPaths wsX6_worthByPaths) := goodIn_app (goodIn_of _ (by decide +kernel)) ggL_law_X6_worthByPaths
set_option maxRecDepth 20000 in
theorem ggL_law_X5_divisor : GoodIn wsL_law wsX5_divisor := goodIn_r _ [472, 20, 207, 16, 176, 208, 473, 427, 2, 428, 429, 534, 535, 536, 537, 538, 572, 573, 574, 575, 576, 577, 578, 579, 561, 562, 563, 564, 565, 566, 567, 568, 569, 570, 571] (by decide +kernel) (by decide +kernel)
set_option maxRecDepth 20000 in
theorem gL_law_X5_divisor : GoodIn wsL_law (wsV RL 115 RX5 yX5_divisor wsX5_divisor) := goodIn_app (goodIn_of _ (by decide +kernel)) ggL_law_X5_divisor
set_option maxRecDepth 20000 in
theorem ggL_law_X6_divisor : GoodIn wsL_law wsX6_divisor := goodIn_r _ [477, 150, 142, 98, 478, 361, 362, 363, 5, 364, 253, 259, 260, 261, 262, 104, 94, 263, 264, 265, 258, 103, 266, 267, 268, 269, 168, 99, 195, 100, 102, 196, 101, 270, 271, 272, 273, 95, 96, 274, 275, 276, 277, 278, 279, 280, 281, 539, 540, 541, 542, 543, 544, 545, 546, 547, 548, 549, 550, 551, 552, 553, 554, 555, 556, 557, 558, 559, 560] (by decide +kernel) (by decide +kernel)
set_option maxRecDepth 20000 in
theorem gL_law_X6_divisor : GoodIn wsL_law (wsV RL 118 RX6 yX6_divisor wsX6_divisor) := goodIn_app (goodIn_of _ (by decide +kernel)) ggL_law_X6_divisor
set_option maxRecDepth 20000 in
theorem ggL_law_X5_states : GoodIn wsL_law wsX5_states := goodIn_r _ [482, 25, 16, 20, 483, 370, 371, 372, 24, 373, 374, 375, 73, 74, 75, 70, 376, 377, 378, 379, 380, 381, 382, 66, 72, 76, 383, 384, 385, 69, 386, 86, 87, 387, 232, 225, 233, 88, 388, 224, 226, 89, 81, 389, 82, 390, 83, 391, 85, 392, 393, 394, 395, 396, 397, 398, 399, 400, 401, 402, 403, 404, 71, 405, 406, 407, 408, 65, 409, 410, 411, 412, 413, 414, 415, 416, 417, 418, 419, 420, 421, 422, 211, 212, 19, 213, 53, 135, 54, 137, 55, 214, 215, 216, 217, 57, 59, 218, 58, 60, 219, 220, 221, 32, 222, 48, 49, 223, 227, 228, 229, 230, 231, 234, 235, 236, 237, 47, 238, 239, 240, 241, 242, 56, 243, 244, 245, 246, 247, 248, 423, 424, 425, 15, 426, 36, 427, 2, 428, 429, 430, 431, 432, 433, 434, 435, 534, 535, 536, 537, 538, 580, 581, 582, 583, 584, 585, 586, 587, 588, 572, 573, 574, 575, 576, 577, 578, 579, 592, 593, 594, 595, 596, 597, 598, 599, 561, 562, 563, 564, 565, 566, 567, 568, 569, 570, 571, 589, 590, 591] (by decide +kernel) (by decide +kernel)
set_option maxRecDepth 20000 in
theorem gL_law_X5_states : GoodIn wsL_law (wsV RL 119 RX5 yX5_states wsX5_states) := goodIn_app (goodIn_of _ (by decide +kernel)) ggL_law_X5_states
set_option maxRecDepth 20000 in
theorem ggL_law_X6_states : GoodIn wsL_law wsX6_states := goodIn_r _ [487, 150, 104, 263, 264, 265, 98, 105, 361, 362, 363, 5, 364, 142, 253, 259, 260, 261, 262, 94, 258, 103, 266, 267, 268, 269, 168, 99, 195, 100, 102, 196, 101, 270, 271, 272, 273, 95, 96, 274, 275, 276, 277, 278, 279, 280, 281, 444, 445, 446, 447, 448, 449, 450, 451, 97, 539, 540, 541, 542, 543, 544, 545, 546, 547, 548, 549, 550, 551, 552, 553, 554, 555, 556, 557, 558, 559, 560] (by decide +kernel) (by decide +kernel)
set_option maxRecDepth 20000 in
theorem gL_law_X6_states : GoodIn wsL_law (wsV RL 122 RX6 yX6_states wsX6_states) := goodIn_app (goodIn_of _ (by decide +kernel)) ggL_law_X6_states
set_option maxRecDepth 20000 in
theorem ggL_law_X5_least : GoodIn wsL_law wsX5_least := goodIn_r _ [491, 25, 16, 20, 492, 370, 371, 372, 24, 373, 374, 375, 73, 74, 75, 70, 376, 377, 378, 379, 380, 381, 382, 66, 72, 76, 383, 384, 385, 69, 386, 86, 87, 387, 232, 225, 233, 88, 388, 224, 226, 89, 81, 389, 82, 390, 83, 391, 85, 392, 393, 394, 395, 396, 397, 398, 399, 400, 401, 402, 403, 404, 71, 405, 406, 407, 408, 65, 409, 410, 411, 412, 413, 414, 415, 416, 417, 418, 419, 420, 421, 422, 211, 212, 19, 213, 53, 135, 54, 137, 55, 214, 215, 216, 217, 57, 59, 218, 58, 60, 219, 220, 221, 32, 222, 48, 49, 223, 227, 228, 229, 230, 231, 234, 235, 236, 237, 47, 238, 239, 240, 241, 242, 56, 243, 244, 245, 246, 247, 248, 423, 424, 425, 15, 426, 36, 427, 2, 428, 429, 430, 431, 432, 433, 434, 435, 534, 535, 536, 537, 538, 580, 581, 582, 583, 584, 585, 586, 587, 588, 572, 573, 574, 575, 576, 577, 578, 579, 592, 593, 594, 595, 596, 597, 598, 599, 561, 562, 563, 564, 565, 566, 567, 568, 569, 570, 571, 589, 590, 591] (by decide +kernel) (by decide +kernel)
set_option maxRecDepth 20000 in
theorem gL_law_X5_least : GoodIn wsL_law (wsV RL 123 RX5 yX5_least wsX5_least) := goodIn_app (goodIn_of _ (by decide +kernel)) ggL_law_X5_least
set_option maxRecDepth 20000 in
theorem ggL_law_X6_least : GoodIn wsL_law wsX6_least := goodIn_r _ [496, 150, 361, 362, 363, 5, 364, 142, 253, 259, 260, 261, 262, 104, 94, 263, 264, 265, 258, 103, 266, 267, 268, 269, 168, 98, 99, 195, 100, 102, 196, 101, 270, 271, 272, 273, 95, 96, 274, 275, 276, 277, 278, 279, 280, 281, 497, 498, 499, 500, 254, 255, 256, 257, 444, 445, 446, 447, 448, 449, 450, 451, 97, 539, 540, 541, 542, 543, 544, 545, 546, 547, 548, 549, 550, 551, 552, 553, 554, 555, 556, 557, 558, 559, 560] (by decide +kernel) (by decide +kernel)
set_option maxRecDepth 20000 in
theorem gL_law_X6_least : GoodIn wsL_law (wsV RL 126 RX6 yX6_least wsX6_least) := goodIn_app (goodIn_of _ (by decide +kernel)) ggL_law_X6_least
set_option maxRecDepth 20000 in
theorem ggL_law_X5_most : GoodIn wsL_law wsX5_most := goodIn_r _ [504, 25, 16, 20, 505, 370, 371, 372, 24, 373, 374, 375, 73, 74, 75, 70, 376, 377, 378, 379, 380, 381, 382, 66, 72, 76, 383, 384, 385, 69, 386, 86, 87, 387, 232, 225, 233, 88, 388, 224, 226, 89, 81, 389, 82, 390, 83, 391, 85, 392, 393, 394, 395, 396, 397, 398, 399, 400, 401, 402, 403, 404, 71, 405, 406, 407, 408, 65, 409, 410, 411, 412, 413, 414, 415, 416, 417, 418, 419, 420, 421, 422, 211, 212, 19, 213, 53, 135, 54, 137, 55, 214, 215, 216, 217, 57, 59, 218, 58, 60, 219, 220, 221, 32, 222, 48, 49, 223, 227, 228, 229, 230, 231, 234, 235, 236, 237, 47, 238, 239, 240, 241, 242, 56, 243, 244, 245, 246, 247, 248, 423, 424, 425, 15, 426, 36, 427, 2, 428, 429, 430, 431, 432, 433, 434, 435, 534, 535, 536, 537, 538, 580, 581, 582, 583, 584, 585, 586, 587, 588, 572, 573, 574, 575, 576, 577, 578, 579, 592, 593, 594, 595, 596, 597, 598, 599, 561, 562, 563, 564, 565, 566, 567, 568, 569, 570, 571, 589, 590, 591] (by decide +kernel) (by decide +kernel)
set_option maxRecDepth 20000 in
theorem gL_law_X5_most : GoodIn wsL_law (wsV RL 127 RX5 yX5_most wsX5_most) := goodIn_app (goodIn_of _ (by decide +kernel)) ggL_law_X5_most
set_option maxRecDepth 20000 in
theorem ggL_law_X6_most : GoodIn wsL_law wsX6_most := goodIn_r _ [509, 150, 361, 362, 363, 5, 364, 142, 253, 259, 260, 261, 262, 104, 94, 263, 264, 265, 258, 103, 266, 267, 268, 269, 168, 98, 99, 195, 100, 102, 196, 101, 270, 271, 272, 273, 95, 96, 274, 275, 276, 277, 278, 279, 280, 281, 497, 498, 499, 500, 254, 255, 256, 257, 444, 445, 446, 447, 448, 449, 450, 451, 97, 539, 540, 541, 542, 543, 544, 545, 546, 547, 548, 549, 550, 551, 552, 553, 554, 555, 556, 557, 558, 559, 560] (by decide +kernel) (by decide +kernel)
set_option maxRecDepth 20000 in
theorem gL_law_X6_most : GoodIn wsL_law (wsV RL 130 RX6 yX6_most wsX6_most) := goodIn_app (goodIn_of _ (by decide +kernel)) ggL_law_X6_most
set_option maxRecDepth 20000 in
theorem ggL_law_L_endsIn : GoodIn wsL_law wsL_endsIn := goodIn_ca (goodIn_r _ [512, 111, 513, 514, 515, 2, 516, 118, 119, 16, 176, 25, 20, 128, 129, 130, 370, 371, 372, 24, 373, 374, 375, 73, 74, 75, 70, 376, 377, 378, 379, 380, 381, 382, 66, 72, 76, 383, 384, 385, 69, 386, 86, 87, 387, 232, 225, 233, 88, 388, 224, 226, 89, 81, 389, 82, 390, 83, 391, 85, 392, 393, 394, 395, 396, 397, 398, 399, 400, 401, 402, 403, 404, 71, 405, 406, 407, 408, 65, 409, 410, 411, 412, 413, 414, 415, 416, 417, 418, 419, 420, 421, 422, 211, 212, 19, 213, 53, 135, 54, 137, 55, 214, 215, 216, 217, 57, 59, 218, 58, 60, 219, 220, 221, 32, 222, 48, 49, 223, 227, 228, 229, 230, 231, 234, 235, 236, 237, 47, 238, 239, 240, 241, 242, 56, 243, 244, 245, 246, 247, 248, 423, 424, 425, 15, 426, 36, 427, 428, 429, 430, 431, 432, 433, 434, 435, 517, 518, 519, 520, 534, 535, 536, 537, 538, 561, 562, 563, 564, 565, 566, 567, 568, 569, 570, 571, 572, 573, 574, 575, 576, 577, 578, 579, 580, 581, 582, 583, 584, 585, 586, 587, 588, 592, 593, 594, 595, 596, 597, 598, 599, 589, 590, 591] (by decide +kernel) (by decide +kernel)) (goodIn_sub (fun _ h => List.mem_append_left _ (List.mem_append_right _ h)) (by decide +kernel))
set_option maxRecDepth 20000 in
theorem gL_law_L_endsIn : GoodIn wsL_law (va_wsS RL 131 yL_endsIn wsL_endsIn) := goodIn_app (goodIn_of _ (by decide +kernel)) ggL_law_L_endsIn
set_option maxRecDepth 20000 in
theorem ggL_law_X6_endsIn : GoodIn wsL_law wsX6_endsIn := goodIn_r _ [524, 98, 142, 265, 143, 144, 5, 145, 146, 147, 148, 149, 150, 444, 445, 446, 447, 361, 362, 363, 364, 253, 259, 260, 261, 262, 104, 94, 263, 264, 258, 103, 266, 267, 268, 269, 168, 99, 195, 100, 102, 196, 101, 270, 271, 272, 273, 95, 96, 274, 275, 276, 277, 278, 279, 280, 281, 448, 449, 450, 451, 97, 539, 540, 541, 542, 543, 544, 545, 546, 547, 548, 549, 550, 551, 552, 553, 554, 555, 556, 557, 558, 559, 560] (by decide +kernel) (by decide +kernel)
set_option maxRecDepth 20000 in
theorem gL_law_X6_endsIn : GoodIn wsL_law (wsV RL 133 RX6 yX6_endsIn wsX6_endsIn) := goodIn_app (goodIn_of _ (by decide +kernel)) ggL_law_X6_endsIn
set_option maxRecDepth 20000 in
theorem ggL_law_X5_knocks : GoodIn wsL_law wsX5_knocks := goodIn_r _ [528, 25, 16, 20, 529, 370, 371, 372, 24, 373, 374, 375, 73, 74, 75, 70, 376, 377, 378, 379, 380, 381, 382, 66, 72, 76, 383, 384, 385, 69, 386, 86, 87, 387, 232, 225, 233, 88, 388, 224, 226, 89, 81, 389, 82, 390, 83, 391, 85, 392, 393, 394, 395, 396, 397, 398, 399, 400, 401, 402, 403, 404, 71, 405, 406, 407, 408, 65, 409, 410, 411, 412, 413, 414, 415, 416, 417, 418, 419, 420, 421, 422, 211, 212, 19, 213, 53, 135, 54, 137, 55, 214, 215, 216, 217, 57, 59, 218, 58, 60, 219, 220, 221, 32, 222, 48, 49, 223, 227, 228, 229, 230, 231, 234, 235, 236, 237, 47, 238, 239, 240, 241, 242, 56, 243, 244, 245, 246, 247, 248, 423, 424, 425, 15, 426, 36, 427, 2, 428, 429, 430, 431, 432, 433, 434, 435, 534, 535, 536, 537, 538, 580, 581, 582, 583, 584, 585, 586, 587, 588, 572, 573, 574, 575, 576, 577, 578, 579, 592, 593, 594, 595, 596, 597, 598, 599, 561, 562, 563, 564, 565, 566, 567, 568, 569, 570, 571, 589, 590, 591] (by decide +kernel) (by decide +kernel)
set_option maxRecDepth 20000 in
theorem gL_law_X5_knocks : GoodIn wsL_law (wsV RL 134 RX5 yX5_knocks wsX5_knocks) := goodIn_app (goodIn_of _ (by decide +kernel)) ggL_law_X5_knocks
set_option maxRecDepth 20000 in
theorem ggL_law_X6_knocks : GoodIn wsL_law wsX6_knocks := goodIn_r _ [533, 150, 264, 361, 362, 363, 5, 364, 142, 253, 259, 260, 261, 262, 104, 94, 263, 265, 258, 103, 266, 267, 268, 269, 168, 98, 99, 195, 100, 102, 196, 101, 270, 271, 272, 273, 95, 96, 274, 275, 276, 277, 278, 279, 280, 281, 444, 445, 446, 447, 448, 449, 450, 451, 97, 539, 540, 541, 542, 543, 544, 545, 546, 547, 548, 549, 550, 551, 552, 553, 554, 555, 556, 557, 558, 559, 560] (by decide +kernel) (by decide +kernel)
set_option maxRecDepth 20000 in
theorem gL_law_X6_knocks : GoodIn wsL_law (wsV RL 137 RX6 yX6_knocks wsX6_knocks) := goodIn_app (goodIn_of _ (by decide +kernel)) ggL_law_X6_knocks
theorem dL_law_0 : decode cL_law 0 = .ok (.new 8, 3) := by decide +kernel
theorem dL_law_3 : decode cL_law 3 = .ok (.dup, 1) := by decide +kernel
theorem dL_law_4 : decode cL_law 4 = .ok (.invokespecial 43, 3) := by decide +kernel
theorem dL_law_7 : decode cL_law 7 = .ok (.astore_n 1, 1) := by decide +kernel
theorem dL_law_8 : decode cL_law 8 = .ok (.new 44, 3) := by decide +kernel
theorem dL_law_11 : decode cL_law 11 = .ok (.dup, 1) := by decide +kernel
theorem dL_law_12 : decode cL_law 12 = .ok (.invokespecial 46, 3) := by decide +kernel
theorem dL_law_15 : decode cL_law 15 = .ok (.astore_n 2, 1) := by decide +kernel
theorem dL_law_16 : decode cL_law 16 = .ok (.iconst 1, 1) := by decide +kernel
theorem dL_law_17 : decode cL_law 17 = .ok (.newarray .long, 2) := by decide +kernel
theorem dL_law_19 : decode cL_law 19 = .ok (.astore_n 3, 1) := by decide +kernel
theorem dL_law_20 : decode cL_law 20 = .ok (.iconst 0, 1) := by decide +kernel
theorem dL_law_21 : decode cL_law 21 = .ok (.istore 4, 2) := by decide +kernel
theorem dL_law_23 : decode cL_law 23 = .ok (.iload 4, 2) := by decide +kernel
theorem dL_law_25 : decode cL_law 25 = .ok (.aload_n 0, 1) := by decide +kernel
theorem dL_law_26 : decode cL_law 26 = .ok (.arraylength, 1) := by decide +kernel
theorem dL_law_27 : decode cL_law 27 = .ok (.bipush 6, 2) := by decide +kernel
theorem dL_law_29 : decode cL_law 29 = .ok (.isub, 1) := by decide +kernel
theorem dL_law_30 : decode cL_law 30 = .ok (.if_icmp .gt 803, 3) := by decide +kernel
theorem dL_law_33 : decode cL_law 33 = .ok (.aload_n 0, 1) := by decide +kernel
theorem dL_law_34 : decode cL_law 34 = .ok (.iload 4, 2) := by decide +kernel
theorem dL_law_36 : decode cL_law 36 = .ok (.iaload, 1) := by decide +kernel
theorem dL_law_37 : decode cL_law 37 = .ok (.bipush 31, 2) := by decide +kernel
theorem dL_law_39 : decode cL_law 39 = .ok (.iand, 1) := by decide +kernel
theorem dL_law_40 : decode cL_law 40 = .ok (.tableswitch 787 0 20 #[100, 172, 236, 320, 387, 459, 503, 516, 572, 585, 598, 611, 624, 637, 651, 665, 679, 692, 705, 718, 773], 100) := by decide +kernel
theorem dL_law_140 : decode cL_law 140 = .ok (.aload_n 1, 1) := by decide +kernel
theorem dL_law_141 : decode cL_law 141 = .ok (.aload_n 0, 1) := by decide +kernel
theorem dL_law_142 : decode cL_law 142 = .ok (.iload 4, 2) := by decide +kernel
theorem dL_law_144 : decode cL_law 144 = .ok (.iconst 1, 1) := by decide +kernel
theorem dL_law_145 : decode cL_law 145 = .ok (.iadd, 1) := by decide +kernel
theorem dL_law_146 : decode cL_law 146 = .ok (.iaload, 1) := by decide +kernel
theorem dL_law_147 : decode cL_law 147 = .ok (.aload_n 0, 1) := by decide +kernel
theorem dL_law_148 : decode cL_law 148 = .ok (.iload 4, 2) := by decide +kernel
theorem dL_law_150 : decode cL_law 150 = .ok (.iconst 2, 1) := by decide +kernel
theorem dL_law_151 : decode cL_law 151 = .ok (.iadd, 1) := by decide +kernel
theorem dL_law_152 : decode cL_law 152 = .ok (.iaload, 1) := by decide +kernel
theorem dL_law_153 : decode cL_law 153 = .ok (.aload_n 0, 1) := by decide +kernel
theorem dL_law_154 : decode cL_law 154 = .ok (.iload 4, 2) := by decide +kernel
theorem dL_law_156 : decode cL_law 156 = .ok (.iconst 3, 1) := by decide +kernel
theorem dL_law_157 : decode cL_law 157 = .ok (.iadd, 1) := by decide +kernel
theorem dL_law_158 : decode cL_law 158 = .ok (.iaload, 1) := by decide +kernel
theorem dL_law_159 : decode cL_law 159 = .ok (.aload_n 0, 1) := by decide +kernel
theorem dL_law_160 : decode cL_law 160 = .ok (.iload 4, 2) := by decide +kernel
theorem dL_law_162 : decode cL_law 162 = .ok (.iconst 4, 1) := by decide +kernel
theorem dL_law_163 : decode cL_law 163 = .ok (.iadd, 1) := by decide +kernel
theorem dL_law_164 : decode cL_law 164 = .ok (.iaload, 1) := by decide +kernel
theorem dL_law_165 : decode cL_law 165 = .ok (.invokestatic 47, 3) := by decide +kernel
theorem dL_law_168 : decode cL_law 168 = .ok (.istore 5, 2) := by decide +kernel
theorem dL_law_170 : decode cL_law 170 = .ok (.aload_n 2, 1) := by decide +kernel
theorem dL_law_171 : decode cL_law 171 = .ok (.aload_n 0, 1) := by decide +kernel
theorem dL_law_172 : decode cL_law 172 = .ok (.iload 4, 2) := by decide +kernel
theorem dL_law_174 : decode cL_law 174 = .ok (.iconst 1, 1) := by decide +kernel
theorem dL_law_175 : decode cL_law 175 = .ok (.iadd, 1) := by decide +kernel
theorem dL_law_176 : decode cL_law 176 = .ok (.iaload, 1) := by decide +kernel
theorem dL_law_177 : decode cL_law 177 = .ok (.aload_n 0, 1) := by decide +kernel
theorem dL_law_178 : decode cL_law 178 = .ok (.iload 4, 2) := by decide +kernel
theorem dL_law_180 : decode cL_law 180 = .ok (.iconst 2, 1) := by decide +kernel
theorem dL_law_181 : decode cL_law 181 = .ok (.iadd, 1) := by decide +kernel
theorem dL_law_182 : decode cL_law 182 = .ok (.iaload, 1) := by decide +kernel
theorem dL_law_183 : decode cL_law 183 = .ok (.aload_n 0, 1) := by decide +kernel
theorem dL_law_184 : decode cL_law 184 = .ok (.iload 4, 2) := by decide +kernel
theorem dL_law_186 : decode cL_law 186 = .ok (.iconst 3, 1) := by decide +kernel
theorem dL_law_187 : decode cL_law 187 = .ok (.iadd, 1) := by decide +kernel
theorem dL_law_188 : decode cL_law 188 = .ok (.iaload, 1) := by decide +kernel
theorem dL_law_189 : decode cL_law 189 = .ok (.aload_n 0, 1) := by decide +kernel
theorem dL_law_190 : decode cL_law 190 = .ok (.iload 4, 2) := by decide +kernel
theorem dL_law_192 : decode cL_law 192 = .ok (.iconst 4, 1) := by decide +kernel
theorem dL_law_193 : decode cL_law 193 = .ok (.iadd, 1) := by decide +kernel
theorem dL_law_194 : decode cL_law 194 = .ok (.iaload, 1) := by decide +kernel
theorem dL_law_195 : decode cL_law 195 = .ok (.invokevirtual 52, 3) := by decide +kernel
theorem dL_law_198 : decode cL_law 198 = .ok (.aload_n 2, 1) := by decide +kernel
theorem dL_law_199 : decode cL_law 199 = .ok (.invokevirtual 53, 3) := by decide +kernel
theorem dL_law_202 : decode cL_law 202 = .ok (.iload 5, 2) := by decide +kernel
theorem dL_law_204 : decode cL_law 204 = .ok (.if_icmp .eq 5, 3) := by decide +kernel
theorem dL_law_207 : decode cL_law 207 = .ok (.iconst 0, 1) := by decide +kernel
theorem dL_law_208 : decode cL_law 208 = .ok (.ireturn, 1) := by decide +kernel
theorem dL_law_209 : decode cL_law 209 = .ok (.goto 618, 3) := by decide +kernel
theorem dL_law_212 : decode cL_law 212 = .ok (.aload_n 1, 1) := by decide +kernel
theorem dL_law_213 : decode cL_law 213 = .ok (.aload_n 0, 1) := by decide +kernel
theorem dL_law_214 : decode cL_law 214 = .ok (.iload 4, 2) := by decide +kernel
theorem dL_law_216 : decode cL_law 216 = .ok (.iconst 1, 1) := by decide +kernel
theorem dL_law_217 : decode cL_law 217 = .ok (.iadd, 1) := by decide +kernel
theorem dL_law_218 : decode cL_law 218 = .ok (.iaload, 1) := by decide +kernel
theorem dL_law_219 : decode cL_law 219 = .ok (.ifCond .eq 7, 3) := by decide +kernel
theorem dL_law_222 : decode cL_law 222 = .ok (.iconst 1, 1) := by decide +kernel
theorem dL_law_223 : decode cL_law 223 = .ok (.goto 4, 3) := by decide +kernel
theorem dL_law_226 : decode cL_law 226 = .ok (.iconst 0, 1) := by decide +kernel
theorem dL_law_227 : decode cL_law 227 = .ok (.aload_n 0, 1) := by decide +kernel
theorem dL_law_228 : decode cL_law 228 = .ok (.iload 4, 2) := by decide +kernel
theorem dL_law_230 : decode cL_law 230 = .ok (.iconst 2, 1) := by decide +kernel
theorem dL_law_231 : decode cL_law 231 = .ok (.iadd, 1) := by decide +kernel
theorem dL_law_232 : decode cL_law 232 = .ok (.iaload, 1) := by decide +kernel
theorem dL_law_233 : decode cL_law 233 = .ok (.invokestatic 56, 3) := by decide +kernel
theorem dL_law_236 : decode cL_law 236 = .ok (.istore 5, 2) := by decide +kernel
theorem dL_law_238 : decode cL_law 238 = .ok (.aload_n 2, 1) := by decide +kernel
theorem dL_law_239 : decode cL_law 239 = .ok (.aload_n 0, 1) := by decide +kernel
theorem dL_law_240 : decode cL_law 240 = .ok (.iload 4, 2) := by decide +kernel
theorem dL_law_242 : decode cL_law 242 = .ok (.iconst 1, 1) := by decide +kernel
theorem dL_law_243 : decode cL_law 243 = .ok (.iadd, 1) := by decide +kernel
theorem dL_law_244 : decode cL_law 244 = .ok (.iaload, 1) := by decide +kernel
theorem dL_law_245 : decode cL_law 245 = .ok (.ifCond .eq 7, 3) := by decide +kernel
theorem dL_law_248 : decode cL_law 248 = .ok (.iconst 1, 1) := by decide +kernel
theorem dL_law_249 : decode cL_law 249 = .ok (.goto 4, 3) := by decide +kernel
theorem dL_law_252 : decode cL_law 252 = .ok (.iconst 0, 1) := by decide +kernel
theorem dL_law_253 : decode cL_law 253 = .ok (.aload_n 0, 1) := by decide +kernel
theorem dL_law_254 : decode cL_law 254 = .ok (.iload 4, 2) := by decide +kernel
theorem dL_law_256 : decode cL_law 256 = .ok (.iconst 2, 1) := by decide +kernel
theorem dL_law_257 : decode cL_law 257 = .ok (.iadd, 1) := by decide +kernel
theorem dL_law_258 : decode cL_law 258 = .ok (.iaload, 1) := by decide +kernel
theorem dL_law_259 : decode cL_law 259 = .ok (.invokevirtual 59, 3) := by decide +kernel
theorem dL_law_262 : decode cL_law 262 = .ok (.aload_n 2, 1) := by decide +kernel
theorem dL_law_263 : decode cL_law 263 = .ok (.invokevirtual 53, 3) := by decide +kernel
theorem dL_law_266 : decode cL_law 266 = .ok (.iload 5, 2) := by decide +kernel
theorem dL_law_268 : decode cL_law 268 = .ok (.if_icmp .eq 5, 3) := by decide +kernel
theorem dL_law_271 : decode cL_law 271 = .ok (.iconst 0, 1) := by decide +kernel
theorem dL_law_272 : decode cL_law 272 = .ok (.ireturn, 1) := by decide +kernel
theorem dL_law_273 : decode cL_law 273 = .ok (.goto 554, 3) := by decide +kernel
theorem dL_law_276 : decode cL_law 276 = .ok (.aload_n 1, 1) := by decide +kernel
theorem dL_law_277 : decode cL_law 277 = .ok (.aload_n 0, 1) := by decide +kernel
theorem dL_law_278 : decode cL_law 278 = .ok (.iload 4, 2) := by decide +kernel
theorem dL_law_280 : decode cL_law 280 = .ok (.iconst 1, 1) := by decide +kernel
theorem dL_law_281 : decode cL_law 281 = .ok (.iadd, 1) := by decide +kernel
theorem dL_law_282 : decode cL_law 282 = .ok (.iaload, 1) := by decide +kernel
theorem dL_law_283 : decode cL_law 283 = .ok (.aload_n 0, 1) := by decide +kernel
theorem dL_law_284 : decode cL_law 284 = .ok (.iload 4, 2) := by decide +kernel
theorem dL_law_286 : decode cL_law 286 = .ok (.iconst 2, 1) := by decide +kernel
theorem dL_law_287 : decode cL_law 287 = .ok (.iadd, 1) := by decide +kernel
theorem dL_law_288 : decode cL_law 288 = .ok (.iaload, 1) := by decide +kernel
theorem dL_law_289 : decode cL_law 289 = .ok (.aload_n 0, 1) := by decide +kernel
theorem dL_law_290 : decode cL_law 290 = .ok (.iload 4, 2) := by decide +kernel
theorem dL_law_292 : decode cL_law 292 = .ok (.iconst 3, 1) := by decide +kernel
theorem dL_law_293 : decode cL_law 293 = .ok (.iadd, 1) := by decide +kernel
theorem dL_law_294 : decode cL_law 294 = .ok (.iaload, 1) := by decide +kernel
theorem dL_law_295 : decode cL_law 295 = .ok (.aload_n 0, 1) := by decide +kernel
theorem dL_law_296 : decode cL_law 296 = .ok (.iload 4, 2) := by decide +kernel
theorem dL_law_298 : decode cL_law 298 = .ok (.iconst 4, 1) := by decide +kernel
theorem dL_law_299 : decode cL_law 299 = .ok (.iadd, 1) := by decide +kernel
theorem dL_law_300 : decode cL_law 300 = .ok (.iaload, 1) := by decide +kernel
theorem dL_law_301 : decode cL_law 301 = .ok (.aload_n 0, 1) := by decide +kernel
theorem dL_law_302 : decode cL_law 302 = .ok (.iload 4, 2) := by decide +kernel
theorem dL_law_304 : decode cL_law 304 = .ok (.iconst 5, 1) := by decide +kernel
theorem dL_law_305 : decode cL_law 305 = .ok (.iadd, 1) := by decide +kernel
theorem dL_law_306 : decode cL_law 306 = .ok (.iaload, 1) := by decide +kernel
theorem dL_law_307 : decode cL_law 307 = .ok (.invokestatic 60, 3) := by decide +kernel
theorem dL_law_310 : decode cL_law 310 = .ok (.istore 5, 2) := by decide +kernel
theorem dL_law_312 : decode cL_law 312 = .ok (.aload_n 2, 1) := by decide +kernel
theorem dL_law_313 : decode cL_law 313 = .ok (.aload_n 0, 1) := by decide +kernel
theorem dL_law_314 : decode cL_law 314 = .ok (.iload 4, 2) := by decide +kernel
theorem dL_law_316 : decode cL_law 316 = .ok (.iconst 1, 1) := by decide +kernel
theorem dL_law_317 : decode cL_law 317 = .ok (.iadd, 1) := by decide +kernel
theorem dL_law_318 : decode cL_law 318 = .ok (.iaload, 1) := by decide +kernel
theorem dL_law_319 : decode cL_law 319 = .ok (.aload_n 0, 1) := by decide +kernel
theorem dL_law_320 : decode cL_law 320 = .ok (.iload 4, 2) := by decide +kernel
theorem dL_law_322 : decode cL_law 322 = .ok (.iconst 2, 1) := by decide +kernel
theorem dL_law_323 : decode cL_law 323 = .ok (.iadd, 1) := by decide +kernel
theorem dL_law_324 : decode cL_law 324 = .ok (.iaload, 1) := by decide +kernel
theorem dL_law_325 : decode cL_law 325 = .ok (.aload_n 0, 1) := by decide +kernel
theorem dL_law_326 : decode cL_law 326 = .ok (.iload 4, 2) := by decide +kernel
theorem dL_law_328 : decode cL_law 328 = .ok (.iconst 3, 1) := by decide +kernel
theorem dL_law_329 : decode cL_law 329 = .ok (.iadd, 1) := by decide +kernel
theorem dL_law_330 : decode cL_law 330 = .ok (.iaload, 1) := by decide +kernel
theorem dL_law_331 : decode cL_law 331 = .ok (.aload_n 0, 1) := by decide +kernel
theorem dL_law_332 : decode cL_law 332 = .ok (.iload 4, 2) := by decide +kernel
theorem dL_law_334 : decode cL_law 334 = .ok (.iconst 4, 1) := by decide +kernel
theorem dL_law_335 : decode cL_law 335 = .ok (.iadd, 1) := by decide +kernel
theorem dL_law_336 : decode cL_law 336 = .ok (.iaload, 1) := by decide +kernel
theorem dL_law_337 : decode cL_law 337 = .ok (.aload_n 0, 1) := by decide +kernel
theorem dL_law_338 : decode cL_law 338 = .ok (.iload 4, 2) := by decide +kernel
theorem dL_law_340 : decode cL_law 340 = .ok (.iconst 5, 1) := by decide +kernel
theorem dL_law_341 : decode cL_law 341 = .ok (.iadd, 1) := by decide +kernel
theorem dL_law_342 : decode cL_law 342 = .ok (.iaload, 1) := by decide +kernel
theorem dL_law_343 : decode cL_law 343 = .ok (.invokevirtual 63, 3) := by decide +kernel
theorem dL_law_346 : decode cL_law 346 = .ok (.aload_n 2, 1) := by decide +kernel
theorem dL_law_347 : decode cL_law 347 = .ok (.invokevirtual 53, 3) := by decide +kernel
theorem dL_law_350 : decode cL_law 350 = .ok (.iload 5, 2) := by decide +kernel
theorem dL_law_352 : decode cL_law 352 = .ok (.if_icmp .eq 5, 3) := by decide +kernel
theorem dL_law_355 : decode cL_law 355 = .ok (.iconst 0, 1) := by decide +kernel
theorem dL_law_356 : decode cL_law 356 = .ok (.ireturn, 1) := by decide +kernel
theorem dL_law_357 : decode cL_law 357 = .ok (.goto 470, 3) := by decide +kernel
theorem dL_law_360 : decode cL_law 360 = .ok (.aload_n 1, 1) := by decide +kernel
theorem dL_law_361 : decode cL_law 361 = .ok (.aload_n 0, 1) := by decide +kernel
theorem dL_law_362 : decode cL_law 362 = .ok (.iload 4, 2) := by decide +kernel
theorem dL_law_364 : decode cL_law 364 = .ok (.iconst 1, 1) := by decide +kernel
theorem dL_law_365 : decode cL_law 365 = .ok (.iadd, 1) := by decide +kernel
theorem dL_law_366 : decode cL_law 366 = .ok (.iaload, 1) := by decide +kernel
theorem dL_law_367 : decode cL_law 367 = .ok (.ifCond .eq 7, 3) := by decide +kernel
theorem dL_law_370 : decode cL_law 370 = .ok (.iconst 1, 1) := by decide +kernel
theorem dL_law_371 : decode cL_law 371 = .ok (.goto 4, 3) := by decide +kernel
theorem dL_law_374 : decode cL_law 374 = .ok (.iconst 0, 1) := by decide +kernel
theorem dL_law_375 : decode cL_law 375 = .ok (.aload_n 0, 1) := by decide +kernel
theorem dL_law_376 : decode cL_law 376 = .ok (.iload 4, 2) := by decide +kernel
theorem dL_law_378 : decode cL_law 378 = .ok (.iconst 2, 1) := by decide +kernel
theorem dL_law_379 : decode cL_law 379 = .ok (.iadd, 1) := by decide +kernel
theorem dL_law_380 : decode cL_law 380 = .ok (.iaload, 1) := by decide +kernel
theorem dL_law_381 : decode cL_law 381 = .ok (.ifCond .eq 7, 3) := by decide +kernel
theorem dL_law_384 : decode cL_law 384 = .ok (.iconst 1, 1) := by decide +kernel
theorem dL_law_385 : decode cL_law 385 = .ok (.goto 4, 3) := by decide +kernel
theorem dL_law_388 : decode cL_law 388 = .ok (.iconst 0, 1) := by decide +kernel
theorem dL_law_389 : decode cL_law 389 = .ok (.invokevirtual 64, 3) := by decide +kernel
theorem dL_law_392 : decode cL_law 392 = .ok (.aload_n 2, 1) := by decide +kernel
theorem dL_law_393 : decode cL_law 393 = .ok (.aload_n 0, 1) := by decide +kernel
theorem dL_law_394 : decode cL_law 394 = .ok (.iload 4, 2) := by decide +kernel
theorem dL_law_396 : decode cL_law 396 = .ok (.iconst 1, 1) := by decide +kernel
theorem dL_law_397 : decode cL_law 397 = .ok (.iadd, 1) := by decide +kernel
theorem dL_law_398 : decode cL_law 398 = .ok (.iaload, 1) := by decide +kernel
theorem dL_law_399 : decode cL_law 399 = .ok (.ifCond .eq 7, 3) := by decide +kernel
theorem dL_law_402 : decode cL_law 402 = .ok (.iconst 1, 1) := by decide +kernel
theorem dL_law_403 : decode cL_law 403 = .ok (.goto 4, 3) := by decide +kernel
theorem dL_law_406 : decode cL_law 406 = .ok (.iconst 0, 1) := by decide +kernel
theorem dL_law_407 : decode cL_law 407 = .ok (.aload_n 0, 1) := by decide +kernel
theorem dL_law_408 : decode cL_law 408 = .ok (.iload 4, 2) := by decide +kernel
theorem dL_law_410 : decode cL_law 410 = .ok (.iconst 2, 1) := by decide +kernel
theorem dL_law_411 : decode cL_law 411 = .ok (.iadd, 1) := by decide +kernel
theorem dL_law_412 : decode cL_law 412 = .ok (.iaload, 1) := by decide +kernel
theorem dL_law_413 : decode cL_law 413 = .ok (.ifCond .eq 7, 3) := by decide +kernel
theorem dL_law_416 : decode cL_law 416 = .ok (.iconst 1, 1) := by decide +kernel
theorem dL_law_417 : decode cL_law 417 = .ok (.goto 4, 3) := by decide +kernel
theorem dL_law_420 : decode cL_law 420 = .ok (.iconst 0, 1) := by decide +kernel
theorem dL_law_421 : decode cL_law 421 = .ok (.invokevirtual 68, 3) := by decide +kernel
theorem dL_law_424 : decode cL_law 424 = .ok (.goto 403, 3) := by decide +kernel
theorem dL_law_427 : decode cL_law 427 = .ok (.aload_n 1, 1) := by decide +kernel
theorem dL_law_428 : decode cL_law 428 = .ok (.aload_n 0, 1) := by decide +kernel
theorem dL_law_429 : decode cL_law 429 = .ok (.iload 4, 2) := by decide +kernel
theorem dL_law_431 : decode cL_law 431 = .ok (.iconst 1, 1) := by decide +kernel
theorem dL_law_432 : decode cL_law 432 = .ok (.iadd, 1) := by decide +kernel
theorem dL_law_433 : decode cL_law 433 = .ok (.iaload, 1) := by decide +kernel
theorem dL_law_434 : decode cL_law 434 = .ok (.ifCond .eq 7, 3) := by decide +kernel
theorem dL_law_437 : decode cL_law 437 = .ok (.iconst 1, 1) := by decide +kernel
theorem dL_law_438 : decode cL_law 438 = .ok (.goto 4, 3) := by decide +kernel
theorem dL_law_441 : decode cL_law 441 = .ok (.iconst 0, 1) := by decide +kernel
theorem dL_law_442 : decode cL_law 442 = .ok (.aload_n 3, 1) := by decide +kernel
theorem dL_law_443 : decode cL_law 443 = .ok (.invokestatic 69, 3) := by decide +kernel
theorem dL_law_446 : decode cL_law 446 = .ok (.istore 5, 2) := by decide +kernel
theorem dL_law_448 : decode cL_law 448 = .ok (.aload_n 2, 1) := by decide +kernel
theorem dL_law_449 : decode cL_law 449 = .ok (.aload_n 0, 1) := by decide +kernel
theorem dL_law_450 : decode cL_law 450 = .ok (.iload 4, 2) := by decide +kernel
theorem dL_law_452 : decode cL_law 452 = .ok (.iconst 1, 1) := by decide +kernel
theorem dL_law_453 : decode cL_law 453 = .ok (.iadd, 1) := by decide +kernel
theorem dL_law_454 : decode cL_law 454 = .ok (.iaload, 1) := by decide +kernel
theorem dL_law_455 : decode cL_law 455 = .ok (.ifCond .eq 7, 3) := by decide +kernel
theorem dL_law_458 : decode cL_law 458 = .ok (.iconst 1, 1) := by decide +kernel
theorem dL_law_459 : decode cL_law 459 = .ok (.goto 4, 3) := by decide +kernel
theorem dL_law_462 : decode cL_law 462 = .ok (.iconst 0, 1) := by decide +kernel
theorem dL_law_463 : decode cL_law 463 = .ok (.invokevirtual 72, 3) := by decide +kernel
theorem dL_law_466 : decode cL_law 466 = .ok (.istore 6, 2) := by decide +kernel
theorem dL_law_468 : decode cL_law 468 = .ok (.aload_n 2, 1) := by decide +kernel
theorem dL_law_469 : decode cL_law 469 = .ok (.invokevirtual 53, 3) := by decide +kernel
theorem dL_law_472 : decode cL_law 472 = .ok (.iload 5, 2) := by decide +kernel
theorem dL_law_474 : decode cL_law 474 = .ok (.if_icmp .eq 5, 3) := by decide +kernel
theorem dL_law_477 : decode cL_law 477 = .ok (.iconst 0, 1) := by decide +kernel
theorem dL_law_478 : decode cL_law 478 = .ok (.ireturn, 1) := by decide +kernel
theorem dL_law_479 : decode cL_law 479 = .ok (.iload 5, 2) := by decide +kernel
theorem dL_law_481 : decode cL_law 481 = .ok (.ifCond .ne 15, 3) := by decide +kernel
theorem dL_law_484 : decode cL_law 484 = .ok (.aload_n 3, 1) := by decide +kernel
theorem dL_law_485 : decode cL_law 485 = .ok (.iconst 0, 1) := by decide +kernel
theorem dL_law_486 : decode cL_law 486 = .ok (.laload, 1) := by decide +kernel
theorem dL_law_487 : decode cL_law 487 = .ok (.iload 6, 2) := by decide +kernel
theorem dL_law_489 : decode cL_law 489 = .ok (.i2l, 1) := by decide +kernel
theorem dL_law_490 : decode cL_law 490 = .ok (.lcmp, 1) := by decide +kernel
theorem dL_law_491 : decode cL_law 491 = .ok (.ifCond .eq 5, 3) := by decide +kernel
theorem dL_law_494 : decode cL_law 494 = .ok (.iconst 0, 1) := by decide +kernel
theorem dL_law_495 : decode cL_law 495 = .ok (.ireturn, 1) := by decide +kernel
theorem dL_law_496 : decode cL_law 496 = .ok (.goto 331, 3) := by decide +kernel
theorem dL_law_499 : decode cL_law 499 = .ok (.aload_n 1, 1) := by decide +kernel
theorem dL_law_500 : decode cL_law 500 = .ok (.aload_n 3, 1) := by decide +kernel
theorem dL_law_501 : decode cL_law 501 = .ok (.invokestatic 73, 3) := by decide +kernel
theorem dL_law_504 : decode cL_law 504 = .ok (.istore 5, 2) := by decide +kernel
theorem dL_law_506 : decode cL_law 506 = .ok (.aload_n 2, 1) := by decide +kernel
theorem dL_law_507 : decode cL_law 507 = .ok (.invokevirtual 76, 3) := by decide +kernel
theorem dL_law_510 : decode cL_law 510 = .ok (.istore 6, 2) := by decide +kernel
theorem dL_law_512 : decode cL_law 512 = .ok (.aload_n 2, 1) := by decide +kernel
theorem dL_law_513 : decode cL_law 513 = .ok (.invokevirtual 53, 3) := by decide +kernel
theorem dL_law_516 : decode cL_law 516 = .ok (.iload 5, 2) := by decide +kernel
theorem dL_law_518 : decode cL_law 518 = .ok (.if_icmp .eq 5, 3) := by decide +kernel
theorem dL_law_521 : decode cL_law 521 = .ok (.iconst 0, 1) := by decide +kernel
theorem dL_law_522 : decode cL_law 522 = .ok (.ireturn, 1) := by decide +kernel
theorem dL_law_523 : decode cL_law 523 = .ok (.iload 5, 2) := by decide +kernel
theorem dL_law_525 : decode cL_law 525 = .ok (.ifCond .ne 15, 3) := by decide +kernel
theorem dL_law_528 : decode cL_law 528 = .ok (.aload_n 3, 1) := by decide +kernel
theorem dL_law_529 : decode cL_law 529 = .ok (.iconst 0, 1) := by decide +kernel
theorem dL_law_530 : decode cL_law 530 = .ok (.laload, 1) := by decide +kernel
theorem dL_law_531 : decode cL_law 531 = .ok (.iload 6, 2) := by decide +kernel
theorem dL_law_533 : decode cL_law 533 = .ok (.i2l, 1) := by decide +kernel
theorem dL_law_534 : decode cL_law 534 = .ok (.lcmp, 1) := by decide +kernel
theorem dL_law_535 : decode cL_law 535 = .ok (.ifCond .eq 5, 3) := by decide +kernel
theorem dL_law_538 : decode cL_law 538 = .ok (.iconst 0, 1) := by decide +kernel
theorem dL_law_539 : decode cL_law 539 = .ok (.ireturn, 1) := by decide +kernel
theorem dL_law_540 : decode cL_law 540 = .ok (.goto 287, 3) := by decide +kernel
theorem dL_law_543 : decode cL_law 543 = .ok (.aload_n 1, 1) := by decide +kernel
theorem dL_law_544 : decode cL_law 544 = .ok (.invokevirtual 77, 3) := by decide +kernel
theorem dL_law_547 : decode cL_law 547 = .ok (.aload_n 2, 1) := by decide +kernel
theorem dL_law_548 : decode cL_law 548 = .ok (.invokevirtual 80, 3) := by decide +kernel
theorem dL_law_551 : decode cL_law 551 = .ok (.if_icmp .eq 276, 3) := by decide +kernel
theorem dL_law_554 : decode cL_law 554 = .ok (.iconst 0, 1) := by decide +kernel
theorem dL_law_555 : decode cL_law 555 = .ok (.ireturn, 1) := by decide +kernel
theorem dL_law_556 : decode cL_law 556 = .ok (.aload_n 1, 1) := by decide +kernel
theorem dL_law_557 : decode cL_law 557 = .ok (.aload_n 0, 1) := by decide +kernel
theorem dL_law_558 : decode cL_law 558 = .ok (.iload 4, 2) := by decide +kernel
theorem dL_law_560 : decode cL_law 560 = .ok (.iconst 1, 1) := by decide +kernel
theorem dL_law_561 : decode cL_law 561 = .ok (.iadd, 1) := by decide +kernel
theorem dL_law_562 : decode cL_law 562 = .ok (.iaload, 1) := by decide +kernel
theorem dL_law_563 : decode cL_law 563 = .ok (.aload_n 3, 1) := by decide +kernel
theorem dL_law_564 : decode cL_law 564 = .ok (.invokestatic 81, 3) := by decide +kernel
theorem dL_law_567 : decode cL_law 567 = .ok (.istore 5, 2) := by decide +kernel
theorem dL_law_569 : decode cL_law 569 = .ok (.aload_n 2, 1) := by decide +kernel
theorem dL_law_570 : decode cL_law 570 = .ok (.aload_n 0, 1) := by decide +kernel
theorem dL_law_571 : decode cL_law 571 = .ok (.iload 4, 2) := by decide +kernel
theorem dL_law_573 : decode cL_law 573 = .ok (.iconst 1, 1) := by decide +kernel
theorem dL_law_574 : decode cL_law 574 = .ok (.iadd, 1) := by decide +kernel
theorem dL_law_575 : decode cL_law 575 = .ok (.iaload, 1) := by decide +kernel
theorem dL_law_576 : decode cL_law 576 = .ok (.invokevirtual 84, 3) := by decide +kernel
theorem dL_law_579 : decode cL_law 579 = .ok (.istore 6, 2) := by decide +kernel
theorem dL_law_581 : decode cL_law 581 = .ok (.aload_n 2, 1) := by decide +kernel
theorem dL_law_582 : decode cL_law 582 = .ok (.invokevirtual 53, 3) := by decide +kernel
theorem dL_law_585 : decode cL_law 585 = .ok (.iload 5, 2) := by decide +kernel
theorem dL_law_587 : decode cL_law 587 = .ok (.if_icmp .eq 5, 3) := by decide +kernel
theorem dL_law_590 : decode cL_law 590 = .ok (.iconst 0, 1) := by decide +kernel
theorem dL_law_591 : decode cL_law 591 = .ok (.ireturn, 1) := by decide +kernel
theorem dL_law_592 : decode cL_law 592 = .ok (.iload 5, 2) := by decide +kernel
theorem dL_law_594 : decode cL_law 594 = .ok (.ifCond .ne 15, 3) := by decide +kernel
theorem dL_law_597 : decode cL_law 597 = .ok (.aload_n 3, 1) := by decide +kernel
theorem dL_law_598 : decode cL_law 598 = .ok (.iconst 0, 1) := by decide +kernel
theorem dL_law_599 : decode cL_law 599 = .ok (.laload, 1) := by decide +kernel
theorem dL_law_600 : decode cL_law 600 = .ok (.iload 6, 2) := by decide +kernel
theorem dL_law_602 : decode cL_law 602 = .ok (.i2l, 1) := by decide +kernel
theorem dL_law_603 : decode cL_law 603 = .ok (.lcmp, 1) := by decide +kernel
theorem dL_law_604 : decode cL_law 604 = .ok (.ifCond .eq 5, 3) := by decide +kernel
theorem dL_law_607 : decode cL_law 607 = .ok (.iconst 0, 1) := by decide +kernel
theorem dL_law_608 : decode cL_law 608 = .ok (.ireturn, 1) := by decide +kernel
theorem dL_law_609 : decode cL_law 609 = .ok (.goto 218, 3) := by decide +kernel
theorem dL_law_612 : decode cL_law 612 = .ok (.aload_n 1, 1) := by decide +kernel
theorem dL_law_613 : decode cL_law 613 = .ok (.invokevirtual 85, 3) := by decide +kernel
theorem dL_law_616 : decode cL_law 616 = .ok (.aload_n 2, 1) := by decide +kernel
theorem dL_law_617 : decode cL_law 617 = .ok (.invokevirtual 88, 3) := by decide +kernel
theorem dL_law_620 : decode cL_law 620 = .ok (.if_icmp .eq 207, 3) := by decide +kernel
theorem dL_law_623 : decode cL_law 623 = .ok (.iconst 0, 1) := by decide +kernel
theorem dL_law_624 : decode cL_law 624 = .ok (.ireturn, 1) := by decide +kernel
theorem dL_law_625 : decode cL_law 625 = .ok (.aload_n 1, 1) := by decide +kernel
theorem dL_law_626 : decode cL_law 626 = .ok (.invokevirtual 89, 3) := by decide +kernel
theorem dL_law_629 : decode cL_law 629 = .ok (.aload_n 2, 1) := by decide +kernel
theorem dL_law_630 : decode cL_law 630 = .ok (.invokevirtual 93, 3) := by decide +kernel
theorem dL_law_633 : decode cL_law 633 = .ok (.if_icmp .eq 194, 3) := by decide +kernel
theorem dL_law_636 : decode cL_law 636 = .ok (.iconst 0, 1) := by decide +kernel
theorem dL_law_637 : decode cL_law 637 = .ok (.ireturn, 1) := by decide +kernel
theorem dL_law_638 : decode cL_law 638 = .ok (.aload_n 1, 1) := by decide +kernel
theorem dL_law_639 : decode cL_law 639 = .ok (.invokevirtual 94, 3) := by decide +kernel
theorem dL_law_642 : decode cL_law 642 = .ok (.aload_n 2, 1) := by decide +kernel
theorem dL_law_643 : decode cL_law 643 = .ok (.invokevirtual 97, 3) := by decide +kernel
theorem dL_law_646 : decode cL_law 646 = .ok (.if_icmp .eq 181, 3) := by decide +kernel
theorem dL_law_649 : decode cL_law 649 = .ok (.iconst 0, 1) := by decide +kernel
theorem dL_law_650 : decode cL_law 650 = .ok (.ireturn, 1) := by decide +kernel
theorem dL_law_651 : decode cL_law 651 = .ok (.aload_n 1, 1) := by decide +kernel
theorem dL_law_652 : decode cL_law 652 = .ok (.invokevirtual 98, 3) := by decide +kernel
theorem dL_law_655 : decode cL_law 655 = .ok (.aload_n 2, 1) := by decide +kernel
theorem dL_law_656 : decode cL_law 656 = .ok (.invokevirtual 101, 3) := by decide +kernel
theorem dL_law_659 : decode cL_law 659 = .ok (.if_icmp .eq 168, 3) := by decide +kernel
theorem dL_law_662 : decode cL_law 662 = .ok (.iconst 0, 1) := by decide +kernel
theorem dL_law_663 : decode cL_law 663 = .ok (.ireturn, 1) := by decide +kernel
theorem dL_law_664 : decode cL_law 664 = .ok (.aload_n 1, 1) := by decide +kernel
theorem dL_law_665 : decode cL_law 665 = .ok (.invokevirtual 102, 3) := by decide +kernel
theorem dL_law_668 : decode cL_law 668 = .ok (.aload_n 2, 1) := by decide +kernel
theorem dL_law_669 : decode cL_law 669 = .ok (.invokevirtual 105, 3) := by decide +kernel
theorem dL_law_672 : decode cL_law 672 = .ok (.if_icmp .eq 155, 3) := by decide +kernel
theorem dL_law_675 : decode cL_law 675 = .ok (.iconst 0, 1) := by decide +kernel
theorem dL_law_676 : decode cL_law 676 = .ok (.ireturn, 1) := by decide +kernel
theorem dL_law_677 : decode cL_law 677 = .ok (.aload_n 1, 1) := by decide +kernel
theorem dL_law_678 : decode cL_law 678 = .ok (.invokevirtual 106, 3) := by decide +kernel
theorem dL_law_681 : decode cL_law 681 = .ok (.aload_n 2, 1) := by decide +kernel
theorem dL_law_682 : decode cL_law 682 = .ok (.invokevirtual 110, 3) := by decide +kernel
theorem dL_law_685 : decode cL_law 685 = .ok (.lcmp, 1) := by decide +kernel
theorem dL_law_686 : decode cL_law 686 = .ok (.ifCond .eq 141, 3) := by decide +kernel
theorem dL_law_689 : decode cL_law 689 = .ok (.iconst 0, 1) := by decide +kernel
theorem dL_law_690 : decode cL_law 690 = .ok (.ireturn, 1) := by decide +kernel
theorem dL_law_691 : decode cL_law 691 = .ok (.aload_n 1, 1) := by decide +kernel
theorem dL_law_692 : decode cL_law 692 = .ok (.invokevirtual 111, 3) := by decide +kernel
theorem dL_law_695 : decode cL_law 695 = .ok (.aload_n 2, 1) := by decide +kernel
theorem dL_law_696 : decode cL_law 696 = .ok (.invokevirtual 114, 3) := by decide +kernel
theorem dL_law_699 : decode cL_law 699 = .ok (.lcmp, 1) := by decide +kernel
theorem dL_law_700 : decode cL_law 700 = .ok (.ifCond .eq 127, 3) := by decide +kernel
theorem dL_law_703 : decode cL_law 703 = .ok (.iconst 0, 1) := by decide +kernel
theorem dL_law_704 : decode cL_law 704 = .ok (.ireturn, 1) := by decide +kernel
theorem dL_law_705 : decode cL_law 705 = .ok (.aload_n 1, 1) := by decide +kernel
theorem dL_law_706 : decode cL_law 706 = .ok (.invokevirtual 115, 3) := by decide +kernel
theorem dL_law_709 : decode cL_law 709 = .ok (.aload_n 2, 1) := by decide +kernel
theorem dL_law_710 : decode cL_law 710 = .ok (.invokevirtual 118, 3) := by decide +kernel
theorem dL_law_713 : decode cL_law 713 = .ok (.lcmp, 1) := by decide +kernel
theorem dL_law_714 : decode cL_law 714 = .ok (.ifCond .eq 113, 3) := by decide +kernel
theorem dL_law_717 : decode cL_law 717 = .ok (.iconst 0, 1) := by decide +kernel
theorem dL_law_718 : decode cL_law 718 = .ok (.ireturn, 1) := by decide +kernel
theorem dL_law_719 : decode cL_law 719 = .ok (.aload_n 1, 1) := by decide +kernel
theorem dL_law_720 : decode cL_law 720 = .ok (.invokevirtual 119, 3) := by decide +kernel
theorem dL_law_723 : decode cL_law 723 = .ok (.aload_n 2, 1) := by decide +kernel
theorem dL_law_724 : decode cL_law 724 = .ok (.invokevirtual 122, 3) := by decide +kernel
theorem dL_law_727 : decode cL_law 727 = .ok (.if_icmp .eq 100, 3) := by decide +kernel
theorem dL_law_730 : decode cL_law 730 = .ok (.iconst 0, 1) := by decide +kernel
theorem dL_law_731 : decode cL_law 731 = .ok (.ireturn, 1) := by decide +kernel
theorem dL_law_732 : decode cL_law 732 = .ok (.aload_n 1, 1) := by decide +kernel
theorem dL_law_733 : decode cL_law 733 = .ok (.invokevirtual 123, 3) := by decide +kernel
theorem dL_law_736 : decode cL_law 736 = .ok (.aload_n 2, 1) := by decide +kernel
theorem dL_law_737 : decode cL_law 737 = .ok (.invokevirtual 126, 3) := by decide +kernel
theorem dL_law_740 : decode cL_law 740 = .ok (.if_icmp .eq 87, 3) := by decide +kernel
theorem dL_law_743 : decode cL_law 743 = .ok (.iconst 0, 1) := by decide +kernel
theorem dL_law_744 : decode cL_law 744 = .ok (.ireturn, 1) := by decide +kernel
theorem dL_law_745 : decode cL_law 745 = .ok (.aload_n 1, 1) := by decide +kernel
theorem dL_law_746 : decode cL_law 746 = .ok (.invokevirtual 127, 3) := by decide +kernel
theorem dL_law_749 : decode cL_law 749 = .ok (.aload_n 2, 1) := by decide +kernel
theorem dL_law_750 : decode cL_law 750 = .ok (.invokevirtual 130, 3) := by decide +kernel
theorem dL_law_753 : decode cL_law 753 = .ok (.if_icmp .eq 74, 3) := by decide +kernel
theorem dL_law_756 : decode cL_law 756 = .ok (.iconst 0, 1) := by decide +kernel
theorem dL_law_757 : decode cL_law 757 = .ok (.ireturn, 1) := by decide +kernel
theorem dL_law_758 : decode cL_law 758 = .ok (.aload_n 1, 1) := by decide +kernel
theorem dL_law_759 : decode cL_law 759 = .ok (.aload_n 0, 1) := by decide +kernel
theorem dL_law_760 : decode cL_law 760 = .ok (.iload 4, 2) := by decide +kernel
theorem dL_law_762 : decode cL_law 762 = .ok (.iconst 1, 1) := by decide +kernel
theorem dL_law_763 : decode cL_law 763 = .ok (.iadd, 1) := by decide +kernel
theorem dL_law_764 : decode cL_law 764 = .ok (.iaload, 1) := by decide +kernel
theorem dL_law_765 : decode cL_law 765 = .ok (.aload_n 3, 1) := by decide +kernel
theorem dL_law_766 : decode cL_law 766 = .ok (.invokestatic 131, 3) := by decide +kernel
theorem dL_law_769 : decode cL_law 769 = .ok (.istore 5, 2) := by decide +kernel
theorem dL_law_771 : decode cL_law 771 = .ok (.aload_n 2, 1) := by decide +kernel
theorem dL_law_772 : decode cL_law 772 = .ok (.aload_n 0, 1) := by decide +kernel
theorem dL_law_773 : decode cL_law 773 = .ok (.iload 4, 2) := by decide +kernel
theorem dL_law_775 : decode cL_law 775 = .ok (.iconst 1, 1) := by decide +kernel
theorem dL_law_776 : decode cL_law 776 = .ok (.iadd, 1) := by decide +kernel
theorem dL_law_777 : decode cL_law 777 = .ok (.iaload, 1) := by decide +kernel
theorem dL_law_778 : decode cL_law 778 = .ok (.invokevirtual 133, 3) := by decide +kernel
theorem dL_law_781 : decode cL_law 781 = .ok (.lstore 6, 2) := by decide +kernel
theorem dL_law_783 : decode cL_law 783 = .ok (.aload_n 2, 1) := by decide +kernel
theorem dL_law_784 : decode cL_law 784 = .ok (.invokevirtual 53, 3) := by decide +kernel
theorem dL_law_787 : decode cL_law 787 = .ok (.iload 5, 2) := by decide +kernel
theorem dL_law_789 : decode cL_law 789 = .ok (.if_icmp .eq 5, 3) := by decide +kernel
theorem dL_law_792 : decode cL_law 792 = .ok (.iconst 0, 1) := by decide +kernel
theorem dL_law_793 : decode cL_law 793 = .ok (.ireturn, 1) := by decide +kernel
theorem dL_law_794 : decode cL_law 794 = .ok (.iload 5, 2) := by decide +kernel
theorem dL_law_796 : decode cL_law 796 = .ok (.ifCond .ne 14, 3) := by decide +kernel
theorem dL_law_799 : decode cL_law 799 = .ok (.aload_n 3, 1) := by decide +kernel
theorem dL_law_800 : decode cL_law 800 = .ok (.iconst 0, 1) := by decide +kernel
theorem dL_law_801 : decode cL_law 801 = .ok (.laload, 1) := by decide +kernel
theorem dL_law_802 : decode cL_law 802 = .ok (.lload 6, 2) := by decide +kernel
theorem dL_law_804 : decode cL_law 804 = .ok (.lcmp, 1) := by decide +kernel
theorem dL_law_805 : decode cL_law 805 = .ok (.ifCond .eq 5, 3) := by decide +kernel
theorem dL_law_808 : decode cL_law 808 = .ok (.iconst 0, 1) := by decide +kernel
theorem dL_law_809 : decode cL_law 809 = .ok (.ireturn, 1) := by decide +kernel
theorem dL_law_810 : decode cL_law 810 = .ok (.goto 17, 3) := by decide +kernel
theorem dL_law_813 : decode cL_law 813 = .ok (.aload_n 1, 1) := by decide +kernel
theorem dL_law_814 : decode cL_law 814 = .ok (.invokevirtual 134, 3) := by decide +kernel
theorem dL_law_817 : decode cL_law 817 = .ok (.aload_n 2, 1) := by decide +kernel
theorem dL_law_818 : decode cL_law 818 = .ok (.invokevirtual 137, 3) := by decide +kernel
theorem dL_law_821 : decode cL_law 821 = .ok (.lcmp, 1) := by decide +kernel
theorem dL_law_822 : decode cL_law 822 = .ok (.ifCond .eq 5, 3) := by decide +kernel
theorem dL_law_825 : decode cL_law 825 = .ok (.iconst 0, 1) := by decide +kernel
theorem dL_law_826 : decode cL_law 826 = .ok (.ireturn, 1) := by decide +kernel
theorem dL_law_827 : decode cL_law 827 = .ok (.iinc 4 6, 3) := by decide +kernel
theorem dL_law_830 : decode cL_law 830 = .ok (.goto (-807), 3) := by decide +kernel
theorem dL_law_833 : decode cL_law 833 = .ok (.iconst 1, 1) := by decide +kernel
theorem dL_law_834 : decode cL_law 834 = .ok (.ireturn, 1) := by decide +kernel
abbrev vwCl : List vw_C := [(RX0, TX0, 3), (RX1, TX1, 8), (RX2, TX2, 11), (RX3, TX3, 8), (RX4, TX4, 9), (RX5, TX5, 5), (RX6, TX6, 22)]

