set_option maxRecDepth 20000 in
theorem gX5_worthOfRow_X2_weightOf : GoodIn wsX5_worthOfRow (wsV RX5 193 RX2 yX2_weightOf wsX2_weightOf) := goodIn_app (goodIn_of _ (by decide +kernel)) ggX5_worthOfRow_X2_weightOf
set_option maxRecDepth 20000 in
theorem ggX5_worthOfRow_X3_move : GoodIn wsX5_worthOfRow wsX3_move := goodIn_r _ [33, 12, 34, 13, 35, 14, 36, 37, 38, 39, 16, 18, 40, 17, 19, 41, 42, 43, 44, 45, 46, 47, 48, 49, 50, 51, 52, 53, 54, 10, 55, 56, 57, 58, 59, 60, 61, 62, 63, 64, 65, 66, 67, 68, 15, 69, 70, 71, 72, 73, 74, 80, 81, 82, 83, 84, 85, 86, 87, 88, 89, 90, 91, 92, 93, 94, 95, 96, 97, 98, 99, 100, 101] (by decide +kernel) (by decide +kernel)
set_option maxRecDepth 20000 in
theorem gX5_worthOfRow_X3_move : GoodIn wsX5_worthOfRow (wsV RX5 122 RX3 yX3_move wsX3_move) := goodIn_app (goodIn_of _ (by decide +kernel)) ggX5_worthOfRow_X3_move
theorem dX5_worthOfRow_0 : decode cX5_worthOfRow 0 = .ok (.aload_n 0, 1) := by decide +kernel
theorem dX5_worthOfRow_1 : decode cX5_worthOfRow 1 = .ok (.getfield 23, 3) := by decide +kernel
theorem dX5_worthOfRow_4 : decode cX5_worthOfRow 4 = .ok (.aload_n 0, 1) := by decide +kernel
theorem dX5_worthOfRow_5 : decode cX5_worthOfRow 5 = .ok (.getfield 19, 3) := by decide +kernel
theorem dX5_worthOfRow_8 : decode cX5_worthOfRow 8 = .ok (.invokevirtual 187, 3) := by decide +kernel
theorem dX5_worthOfRow_11 : decode cX5_worthOfRow 11 = .ok (.lconst 1, 1) := by decide +kernel
theorem dX5_worthOfRow_12 : decode cX5_worthOfRow 12 = .ok (.lstore_n 3, 1) := by decide +kernel
theorem dX5_worthOfRow_13 : decode cX5_worthOfRow 13 = .ok (.iconst 0, 1) := by decide +kernel
theorem dX5_worthOfRow_14 : decode cX5_worthOfRow 14 = .ok (.istore 5, 2) := by decide +kernel
theorem dX5_worthOfRow_16 : decode cX5_worthOfRow 16 = .ok (.iload 5, 2) := by decide +kernel
theorem dX5_worthOfRow_18 : decode cX5_worthOfRow 18 = .ok (.iload_n 2, 1) := by decide +kernel
theorem dX5_worthOfRow_19 : decode cX5_worthOfRow 19 = .ok (.if_icmp .ge 79, 3) := by decide +kernel
theorem dX5_worthOfRow_22 : decode cX5_worthOfRow 22 = .ok (.iload_n 1, 1) := by decide +kernel
theorem dX5_worthOfRow_23 : decode cX5_worthOfRow 23 = .ok (.iload 5, 2) := by decide +kernel
theorem dX5_worthOfRow_25 : decode cX5_worthOfRow 25 = .ok (.invokestatic 131, 3) := by decide +kernel
theorem dX5_worthOfRow_28 : decode cX5_worthOfRow 28 = .ok (.istore 6, 2) := by decide +kernel
theorem dX5_worthOfRow_30 : decode cX5_worthOfRow 30 = .ok (.aload_n 0, 1) := by decide +kernel
theorem dX5_worthOfRow_31 : decode cX5_worthOfRow 31 = .ok (.getfield 23, 3) := by decide +kernel
theorem dX5_worthOfRow_34 : decode cX5_worthOfRow 34 = .ok (.getfield 111, 3) := by decide +kernel
theorem dX5_worthOfRow_37 : decode cX5_worthOfRow 37 = .ok (.ifCond .eq 10, 3) := by decide +kernel
theorem dX5_worthOfRow_40 : decode cX5_worthOfRow 40 = .ok (.iload 6, 2) := by decide +kernel
theorem dX5_worthOfRow_42 : decode cX5_worthOfRow 42 = .ok (.ifCond .eq 5, 3) := by decide +kernel
theorem dX5_worthOfRow_45 : decode cX5_worthOfRow 45 = .ok (.lconst 0, 1) := by decide +kernel
theorem dX5_worthOfRow_46 : decode cX5_worthOfRow 46 = .ok (.lreturn, 1) := by decide +kernel
theorem dX5_worthOfRow_47 : decode cX5_worthOfRow 47 = .ok (.aload_n 0, 1) := by decide +kernel
theorem dX5_worthOfRow_48 : decode cX5_worthOfRow 48 = .ok (.getfield 23, 3) := by decide +kernel
theorem dX5_worthOfRow_51 : decode cX5_worthOfRow 51 = .ok (.getfield 111, 3) := by decide +kernel
theorem dX5_worthOfRow_54 : decode cX5_worthOfRow 54 = .ok (.ifCond .eq 12, 3) := by decide +kernel
theorem dX5_worthOfRow_57 : decode cX5_worthOfRow 57 = .ok (.lload_n 3, 1) := by decide +kernel
theorem dX5_worthOfRow_58 : decode cX5_worthOfRow 58 = .ok (.ldc2_w 191, 3) := by decide +kernel
theorem dX5_worthOfRow_61 : decode cX5_worthOfRow 61 = .ok (.lmul, 1) := by decide +kernel
theorem dX5_worthOfRow_62 : decode cX5_worthOfRow 62 = .ok (.lstore_n 3, 1) := by decide +kernel
theorem dX5_worthOfRow_63 : decode cX5_worthOfRow 63 = .ok (.goto 29, 3) := by decide +kernel
theorem dX5_worthOfRow_66 : decode cX5_worthOfRow 66 = .ok (.lload_n 3, 1) := by decide +kernel
theorem dX5_worthOfRow_67 : decode cX5_worthOfRow 67 = .ok (.aload_n 0, 1) := by decide +kernel
theorem dX5_worthOfRow_68 : decode cX5_worthOfRow 68 = .ok (.getfield 12, 3) := by decide +kernel
theorem dX5_worthOfRow_71 : decode cX5_worthOfRow 71 = .ok (.iload 6, 2) := by decide +kernel
theorem dX5_worthOfRow_73 : decode cX5_worthOfRow 73 = .ok (.invokevirtual 193, 3) := by decide +kernel
theorem dX5_worthOfRow_76 : decode cX5_worthOfRow 76 = .ok (.i2l, 1) := by decide +kernel
theorem dX5_worthOfRow_77 : decode cX5_worthOfRow 77 = .ok (.lmul, 1) := by decide +kernel
theorem dX5_worthOfRow_78 : decode cX5_worthOfRow 78 = .ok (.lstore_n 3, 1) := by decide +kernel
theorem dX5_worthOfRow_79 : decode cX5_worthOfRow 79 = .ok (.aload_n 0, 1) := by decide +kernel
theorem dX5_worthOfRow_80 : decode cX5_worthOfRow 80 = .ok (.getfield 23, 3) := by decide +kernel
theorem dX5_worthOfRow_83 : decode cX5_worthOfRow 83 = .ok (.aload_n 0, 1) := by decide +kernel
theorem dX5_worthOfRow_84 : decode cX5_worthOfRow 84 = .ok (.getfield 12, 3) := by decide +kernel
theorem dX5_worthOfRow_87 : decode cX5_worthOfRow 87 = .ok (.iload 6, 2) := by decide +kernel
theorem dX5_worthOfRow_89 : decode cX5_worthOfRow 89 = .ok (.invokevirtual 122, 3) := by decide +kernel
theorem dX5_worthOfRow_92 : decode cX5_worthOfRow 92 = .ok (.iinc 5 1, 3) := by decide +kernel
theorem dX5_worthOfRow_95 : decode cX5_worthOfRow 95 = .ok (.goto (-79), 3) := by decide +kernel
theorem dX5_worthOfRow_98 : decode cX5_worthOfRow 98 = .ok (.lload_n 3, 1) := by decide +kernel
theorem dX5_worthOfRow_99 : decode cX5_worthOfRow 99 = .ok (.aload_n 0, 1) := by decide +kernel
theorem dX5_worthOfRow_100 : decode cX5_worthOfRow 100 = .ok (.getfield 23, 3) := by decide +kernel
theorem dX5_worthOfRow_103 : decode cX5_worthOfRow 103 = .ok (.getfield 151, 3) := by decide +kernel
theorem dX5_worthOfRow_106 : decode cX5_worthOfRow 106 = .ok (.aload_n 0, 1) := by decide +kernel
theorem dX5_worthOfRow_107 : decode cX5_worthOfRow 107 = .ok (.getfield 19, 3) := by decide +kernel
theorem dX5_worthOfRow_110 : decode cX5_worthOfRow 110 = .ok (.getfield 151, 3) := by decide +kernel
theorem dX5_worthOfRow_113 : decode cX5_worthOfRow 113 = .ok (.isub, 1) := by decide +kernel
theorem dX5_worthOfRow_114 : decode cX5_worthOfRow 114 = .ok (.i2l, 1) := by decide +kernel
theorem dX5_worthOfRow_115 : decode cX5_worthOfRow 115 = .ok (.lmul, 1) := by decide +kernel
theorem dX5_worthOfRow_116 : decode cX5_worthOfRow 116 = .ok (.lreturn, 1) := by decide +kernel
theorem dX5_isUpAt_0 : decode cX5_isUpAt 0 = .ok (.iload_n 0, 1) := by decide +kernel
theorem dX5_isUpAt_1 : decode cX5_isUpAt 1 = .ok (.iload_n 1, 1) := by decide +kernel
theorem dX5_isUpAt_2 : decode cX5_isUpAt 2 = .ok (.ishr, 1) := by decide +kernel
theorem dX5_isUpAt_3 : decode cX5_isUpAt 3 = .ok (.iconst 1, 1) := by decide +kernel
theorem dX5_isUpAt_4 : decode cX5_isUpAt 4 = .ok (.iand, 1) := by decide +kernel
theorem dX5_isUpAt_5 : decode cX5_isUpAt 5 = .ok (.iconst 1, 1) := by decide +kernel
theorem dX5_isUpAt_6 : decode cX5_isUpAt 6 = .ok (.if_icmp .ne 7, 3) := by decide +kernel
theorem dX5_isUpAt_9 : decode cX5_isUpAt 9 = .ok (.iconst 1, 1) := by decide +kernel
theorem dX5_isUpAt_10 : decode cX5_isUpAt 10 = .ok (.goto 4, 3) := by decide +kernel
theorem dX5_isUpAt_13 : decode cX5_isUpAt 13 = .ok (.iconst 0, 1) := by decide +kernel
theorem dX5_isUpAt_14 : decode cX5_isUpAt 14 = .ok (.ireturn, 1) := by decide +kernel
theorem dX5_isAsset_0 : decode cX5_isAsset 0 = .ok (.iload_n 0, 1) := by decide +kernel
theorem dX5_isAsset_1 : decode cX5_isAsset 1 = .ok (.ifCond .eq 8, 3) := by decide +kernel
theorem dX5_isAsset_4 : decode cX5_isAsset 4 = .ok (.iload_n 0, 1) := by decide +kernel
theorem dX5_isAsset_5 : decode cX5_isAsset 5 = .ok (.iconst 1, 1) := by decide +kernel
theorem dX5_isAsset_6 : decode cX5_isAsset 6 = .ok (.if_icmp .ne 7, 3) := by decide +kernel
theorem dX5_isAsset_9 : decode cX5_isAsset 9 = .ok (.iconst 1, 1) := by decide +kernel
theorem dX5_isAsset_10 : decode cX5_isAsset 10 = .ok (.goto 4, 3) := by decide +kernel
theorem dX5_isAsset_13 : decode cX5_isAsset 13 = .ok (.iconst 0, 1) := by decide +kernel
theorem dX5_isAsset_14 : decode cX5_isAsset 14 = .ok (.ireturn, 1) := by decide +kernel
theorem dX5_isWithin_0 : decode cX5_isWithin 0 = .ok (.iload_n 0, 1) := by decide +kernel
theorem dX5_isWithin_1 : decode cX5_isWithin 1 = .ok (.iload_n 1, 1) := by decide +kernel
theorem dX5_isWithin_2 : decode cX5_isWithin 2 = .ok (.if_icmp .lt 12, 3) := by decide +kernel
theorem dX5_isWithin_5 : decode cX5_isWithin 5 = .ok (.iload_n 0, 1) := by decide +kernel
theorem dX5_isWithin_6 : decode cX5_isWithin 6 = .ok (.iload_n 2, 1) := by decide +kernel
theorem dX5_isWithin_7 : decode cX5_isWithin 7 = .ok (.if_icmp .gt 7, 3) := by decide +kernel
theorem dX5_isWithin_10 : decode cX5_isWithin 10 = .ok (.iconst 1, 1) := by decide +kernel
theorem dX5_isWithin_11 : decode cX5_isWithin 11 = .ok (.goto 4, 3) := by decide +kernel
theorem dX5_isWithin_14 : decode cX5_isWithin 14 = .ok (.iconst 0, 1) := by decide +kernel
theorem dX5_isWithin_15 : decode cX5_isWithin 15 = .ok (.ireturn, 1) := by decide +kernel
theorem dX5_wholeWeightOf_0 : decode cX5_wholeWeightOf 0 = .ok (.lconst 1, 1) := by decide +kernel
theorem dX5_wholeWeightOf_1 : decode cX5_wholeWeightOf 1 = .ok (.lstore_n 1, 1) := by decide +kernel
theorem dX5_wholeWeightOf_2 : decode cX5_wholeWeightOf 2 = .ok (.iconst 0, 1) := by decide +kernel
theorem dX5_wholeWeightOf_3 : decode cX5_wholeWeightOf 3 = .ok (.istore_n 3, 1) := by decide +kernel
theorem dX5_wholeWeightOf_4 : decode cX5_wholeWeightOf 4 = .ok (.iload_n 3, 1) := by decide +kernel
theorem dX5_wholeWeightOf_5 : decode cX5_wholeWeightOf 5 = .ok (.iload_n 0, 1) := by decide +kernel
theorem dX5_wholeWeightOf_6 : decode cX5_wholeWeightOf 6 = .ok (.if_icmp .ge 21, 3) := by decide +kernel
theorem dX5_wholeWeightOf_9 : decode cX5_wholeWeightOf 9 = .ok (.iload_n 3, 1) := by decide +kernel
theorem dX5_wholeWeightOf_10 : decode cX5_wholeWeightOf 10 = .ok (.bipush 8, 2) := by decide +kernel
theorem dX5_wholeWeightOf_12 : decode cX5_wholeWeightOf 12 = .ok (.if_icmp .ge 15, 3) := by decide +kernel
theorem dX5_wholeWeightOf_15 : decode cX5_wholeWeightOf 15 = .ok (.lload_n 1, 1) := by decide +kernel
theorem dX5_wholeWeightOf_16 : decode cX5_wholeWeightOf 16 = .ok (.ldc2_w 191, 3) := by decide +kernel
theorem dX5_wholeWeightOf_19 : decode cX5_wholeWeightOf 19 = .ok (.lmul, 1) := by decide +kernel
theorem dX5_wholeWeightOf_20 : decode cX5_wholeWeightOf 20 = .ok (.lstore_n 1, 1) := by decide +kernel
theorem dX5_wholeWeightOf_21 : decode cX5_wholeWeightOf 21 = .ok (.iinc 3 1, 3) := by decide +kernel
theorem dX5_wholeWeightOf_24 : decode cX5_wholeWeightOf 24 = .ok (.goto (-20), 3) := by decide +kernel
theorem dX5_wholeWeightOf_27 : decode cX5_wholeWeightOf 27 = .ok (.lload_n 1, 1) := by decide +kernel
theorem dX5_wholeWeightOf_28 : decode cX5_wholeWeightOf 28 = .ok (.lreturn, 1) := by decide +kernel
theorem dJ9_max_7cf53_0 : decode cJ9_max_7cf53 0 = .ok (.iload_n 0, 1) := by decide +kernel
theorem dJ9_max_7cf53_1 : decode cJ9_max_7cf53 1 = .ok (.iload_n 1, 1) := by decide +kernel
theorem dJ9_max_7cf53_2 : decode cJ9_max_7cf53 2 = .ok (.if_icmp .lt 7, 3) := by decide +kernel
theorem dJ9_max_7cf53_5 : decode cJ9_max_7cf53 5 = .ok (.iload_n 0, 1) := by decide +kernel
theorem dJ9_max_7cf53_6 : decode cJ9_max_7cf53 6 = .ok (.goto 4, 3) := by decide +kernel
theorem dJ9_max_7cf53_9 : decode cJ9_max_7cf53 9 = .ok (.iload_n 1, 1) := by decide +kernel
theorem dJ9_max_7cf53_10 : decode cJ9_max_7cf53 10 = .ok (.ireturn, 1) := by decide +kernel
theorem dJ9_min_7cf53_0 : decode cJ9_min_7cf53 0 = .ok (.iload_n 0, 1) := by decide +kernel
theorem dJ9_min_7cf53_1 : decode cJ9_min_7cf53 1 = .ok (.iload_n 1, 1) := by decide +kernel
theorem dJ9_min_7cf53_2 : decode cJ9_min_7cf53 2 = .ok (.if_icmp .gt 7, 3) := by decide +kernel
theorem dJ9_min_7cf53_5 : decode cJ9_min_7cf53 5 = .ok (.iload_n 0, 1) := by decide +kernel
theorem dJ9_min_7cf53_6 : decode cJ9_min_7cf53 6 = .ok (.goto 4, 3) := by decide +kernel
theorem dJ9_min_7cf53_9 : decode cJ9_min_7cf53 9 = .ok (.iload_n 1, 1) := by decide +kernel
theorem dJ9_min_7cf53_10 : decode cJ9_min_7cf53 10 = .ok (.ireturn, 1) := by decide +kernel
theorem dL_dice_0 : decode cL_dice 0 = .ok (.iload_n 1, 1) := by decide +kernel
theorem dL_dice_1 : decode cL_dice 1 = .ok (.aload_n 0, 1) := by decide +kernel
theorem dL_dice_2 : decode cL_dice 2 = .ok (.arraylength, 1) := by decide +kernel
theorem dL_dice_3 : decode cL_dice 3 = .ok (.if_icmp .ge 9, 3) := by decide +kernel
theorem dL_dice_6 : decode cL_dice 6 = .ok (.aload_n 0, 1) := by decide +kernel
theorem dL_dice_7 : decode cL_dice 7 = .ok (.iload_n 1, 1) := by decide +kernel
theorem dL_dice_8 : decode cL_dice 8 = .ok (.iaload, 1) := by decide +kernel
theorem dL_dice_9 : decode cL_dice 9 = .ok (.goto 22, 3) := by decide +kernel
theorem dL_dice_12 : decode cL_dice 12 = .ok (.ldc 7, 2) := by decide +kernel
theorem dL_dice_14 : decode cL_dice 14 = .ok (.iload_n 1, 1) := by decide +kernel
theorem dL_dice_15 : decode cL_dice 15 = .ok (.sipush 139, 3) := by decide +kernel
theorem dL_dice_18 : decode cL_dice 18 = .ok (.iadd, 1) := by decide +kernel
theorem dL_dice_19 : decode cL_dice 19 = .ok (.imul, 1) := by decide +kernel
theorem dL_dice_20 : decode cL_dice 20 = .ok (.sipush 521, 3) := by decide +kernel
theorem dL_dice_23 : decode cL_dice 23 = .ok (.iload_n 1, 1) := by decide +kernel
theorem dL_dice_24 : decode cL_dice 24 = .ok (.imul, 1) := by decide +kernel
theorem dL_dice_25 : decode cL_dice 25 = .ok (.iload_n 1, 1) := by decide +kernel
theorem dL_dice_26 : decode cL_dice 26 = .ok (.imul, 1) := by decide +kernel
theorem dL_dice_27 : decode cL_dice 27 = .ok (.iadd, 1) := by decide +kernel
theorem dL_dice_28 : decode cL_dice 28 = .ok (.bipush 31, 2) := by decide +kernel
theorem dL_dice_30 : decode cL_dice 30 = .ok (.iadd, 1) := by decide +kernel
theorem dL_dice_31 : decode cL_dice 31 = .ok (.ldc 8, 2) := by decide +kernel
theorem dL_dice_33 : decode cL_dice 33 = .ok (.iand, 1) := by decide +kernel
theorem dL_dice_34 : decode cL_dice 34 = .ok (.ireturn, 1) := by decide +kernel
set_option maxRecDepth 20000 in
theorem ggL_setAsset_X5_setAsset : GoodIn wsL_setAsset wsX5_setAsset := goodIn_ca (goodIn_ca (goodIn_r _ [7, 8, 9, 10, 11, 12, 13, 14, 15, 16, 17, 18, 19, 20, 6, 21, 22, 23, 24, 25, 26, 27, 28, 29, 30, 31, 32, 33, 34, 35, 36, 37, 38, 39, 40, 41, 42, 43, 44, 45, 46, 47, 48, 49, 50, 51, 52, 53, 54, 55, 56, 57, 58, 59, 60, 61, 62, 63, 64, 65, 66, 67] (by decide +kernel) (by decide +kernel)) (goodIn_sub (fun _ h => List.mem_cons_of_mem _ (List.mem_append_left _ (List.mem_append_right _ h))) (by decide +kernel))) (goodIn_sub (fun _ h => List.mem_cons_of_mem _ (List.mem_append_right _ h)) (by decide +kernel))
set_option maxRecDepth 20000 in
theorem gL_setAsset_X5_setAsset : GoodIn wsL_setAsset (wsV RL 9 RX5 yX5_setAsset wsX5_setAsset) := goodIn_app (goodIn_of _ (by decide +kernel)) ggL_setAsset_X5_setAsset
theorem dL_setAsset_0 : decode cL_setAsset 0 = .ok (.aload_n 0, 1) := by decide +kernel
theorem dL_setAsset_1 : decode cL_setAsset 1 = .ok (.iload_n 1, 1) := by decide +kernel
theorem dL_setAsset_2 : decode cL_setAsset 2 = .ok (.iload_n 2, 1) := by decide +kernel
theorem dL_setAsset_3 : decode cL_setAsset 3 = .ok (.iload_n 3, 1) := by decide +kernel
theorem dL_setAsset_4 : decode cL_setAsset 4 = .ok (.iload 4, 2) := by decide +kernel
theorem dL_setAsset_6 : decode cL_setAsset 6 = .ok (.invokevirtual 9, 3) := by decide +kernel
theorem dL_setAsset_9 : decode cL_setAsset 9 = .ok (.iconst 0, 1) := by decide +kernel
theorem dL_setAsset_10 : decode cL_setAsset 10 = .ok (.ireturn, 1) := by decide +kernel
theorem dL_setAsset_11 : decode cL_setAsset 11 = .ok (.astore 5, 2) := by decide +kernel
theorem dL_setAsset_13 : decode cL_setAsset 13 = .ok (.sipush (-961), 3) := by decide +kernel
theorem dL_setAsset_16 : decode cL_setAsset 16 = .ok (.ireturn, 1) := by decide +kernel
theorem dL_setAsset_17 : decode cL_setAsset 17 = .ok (.astore 5, 2) := by decide +kernel
theorem dL_setAsset_19 : decode cL_setAsset 19 = .ok (.sipush (-962), 3) := by decide +kernel
theorem dL_setAsset_22 : decode cL_setAsset 22 = .ok (.ireturn, 1) := by decide +kernel
set_option maxRecDepth 20000 in
theorem ggL_setMoves_X5_setMoves : GoodIn wsL_setMoves wsX5_setMoves := goodIn_ca (goodIn_r _ [6, 7, 8, 9, 10, 11, 12, 13, 14, 5, 15, 16, 17, 18, 19, 20, 21, 22, 23, 24, 25, 26, 27, 28, 29, 30, 31, 32, 33, 34, 35, 36, 37, 38, 39, 40, 41, 42, 43, 44, 45, 46, 47, 48, 49, 50, 51, 52, 53, 54, 55, 56, 57, 58] (by decide +kernel) (by decide +kernel)) (goodIn_sub (fun _ h => List.mem_cons_of_mem _ (List.mem_append_right _ h)) (by decide +kernel))
set_option maxRecDepth 20000 in
theorem gL_setMoves_X5_setMoves : GoodIn wsL_setMoves (wsV RL 19 RX5 yX5_setMoves wsX5_setMoves) := goodIn_app (goodIn_of _ (by decide +kernel)) ggL_setMoves_X5_setMoves
theorem dL_setMoves_0 : decode cL_setMoves 0 = .ok (.aload_n 0, 1) := by decide +kernel
theorem dL_setMoves_1 : decode cL_setMoves 1 = .ok (.iload_n 1, 1) := by decide +kernel
theorem dL_setMoves_2 : decode cL_setMoves 2 = .ok (.iload_n 2, 1) := by decide +kernel
theorem dL_setMoves_3 : decode cL_setMoves 3 = .ok (.invokevirtual 19, 3) := by decide +kernel
theorem dL_setMoves_6 : decode cL_setMoves 6 = .ok (.iconst 0, 1) := by decide +kernel
theorem dL_setMoves_7 : decode cL_setMoves 7 = .ok (.ireturn, 1) := by decide +kernel
theorem dL_setMoves_8 : decode cL_setMoves 8 = .ok (.astore_n 3, 1) := by decide +kernel
theorem dL_setMoves_9 : decode cL_setMoves 9 = .ok (.sipush (-962), 3) := by decide +kernel
theorem dL_setMoves_12 : decode cL_setMoves 12 = .ok (.ireturn, 1) := by decide +kernel
set_option maxRecDepth 20000 in
theorem ggL_setNote_X5_setNote : GoodIn wsL_setNote wsX5_setNote := goodIn_ca (goodIn_r _ [6, 7, 8, 9, 10, 11, 12, 13, 14, 15, 16, 17, 5, 18, 19, 20, 21, 22, 23, 24, 25, 26, 27, 28, 29, 30, 31, 32, 33, 34, 35, 36, 37, 38, 39, 40, 41, 42, 43, 44, 45, 46, 47, 48, 49, 50, 51, 52, 53, 54, 55, 56, 57, 58, 59, 60, 61] (by decide +kernel) (by decide +kernel)) (goodIn_sub (fun _ h => List.mem_cons_of_mem _ (List.mem_append_right _ h)) (by decide +kernel))
set_option maxRecDepth 20000 in
theorem gL_setNote_X5_setNote : GoodIn wsL_setNote (wsV RL 23 RX5 yX5_setNote wsX5_setNote) := goodIn_app (goodIn_of _ (by decide +kernel)) ggL_setNote_X5_setNote
theorem dL_setNote_0 : decode cL_setNote 0 = .ok (.aload_n 0, 1) := by decide +kernel
theorem dL_setNote_1 : decode cL_setNote 1 = .ok (.iload_n 1, 1) := by decide +kernel
theorem dL_setNote_2 : decode cL_setNote 2 = .ok (.iload_n 2, 1) := by decide +kernel
theorem dL_setNote_3 : decode cL_setNote 3 = .ok (.iload_n 3, 1) := by decide +kernel
theorem dL_setNote_4 : decode cL_setNote 4 = .ok (.iload 4, 2) := by decide +kernel
theorem dL_setNote_6 : decode cL_setNote 6 = .ok (.iload 5, 2) := by decide +kernel
theorem dL_setNote_8 : decode cL_setNote 8 = .ok (.invokevirtual 23, 3) := by decide +kernel
theorem dL_setNote_11 : decode cL_setNote 11 = .ok (.iconst 0, 1) := by decide +kernel
theorem dL_setNote_12 : decode cL_setNote 12 = .ok (.ireturn, 1) := by decide +kernel
theorem dL_setNote_13 : decode cL_setNote 13 = .ok (.astore 6, 2) := by decide +kernel
theorem dL_setNote_15 : decode cL_setNote 15 = .ok (.sipush (-962), 3) := by decide +kernel
theorem dL_setNote_18 : decode cL_setNote 18 = .ok (.ireturn, 1) := by decide +kernel
set_option maxRecDepth 20000 in
theorem ggL_act_X5_tell : GoodIn wsL_act wsX5_tell := goodIn_ca (goodIn_r _ [11, 12, 13, 14, 15, 16, 17, 18, 19, 20, 21, 22, 23, 24, 25, 26, 27, 28, 29, 30, 31, 32, 33, 34, 35, 36, 37, 38, 39, 40, 41, 42, 43, 44, 45, 46, 47, 48, 49, 50, 51, 52, 53, 54, 55, 56, 57, 58, 59, 60, 61, 62, 63, 64, 65, 66, 67, 68, 69, 70, 71, 72, 73, 199, 200, 201, 202, 203, 204, 205, 206, 207, 208, 209, 210, 211, 212, 213, 214, 215, 216, 217, 218, 219, 220, 221, 222, 223, 224, 225] (by decide +kernel) (by decide +kernel)) (goodIn_sub (fun _ h => List.mem_cons_of_mem _ (List.mem_append_left _ (List.mem_append_left _ (List.mem_append_right _ h)))) (by decide +kernel))
set_option maxRecDepth 20000 in
theorem gL_act_X5_tell : GoodIn wsL_act (wsV RL 27 RX5 yX5_tell wsX5_tell) := goodIn_app (goodIn_of _ (by decide +kernel)) ggL_act_X5_tell
set_option maxRecDepth 20000 in
theorem ggL_act_X5_takeBack : GoodIn wsL_act wsX5_takeBack := goodIn_ca (goodIn_r _ [77, 12, 13, 14, 16, 19, 18, 17, 78, 79, 80, 23, 81, 25, 26, 82, 27, 28, 29, 67, 34, 37, 35, 38, 83, 84, 10, 85, 20, 21, 22, 24, 30, 31, 32, 33, 36, 39, 40, 41, 42, 43, 44, 45, 46, 47, 48, 49, 50, 51, 52, 53, 54, 55, 56, 57, 58, 59, 60, 61, 62, 63, 64, 65, 66, 68, 69, 70, 71, 72, 73, 199, 200, 201, 202, 203, 204, 205, 206, 207, 208, 209, 210, 211, 212, 213, 214, 215, 216, 217, 218, 219, 220, 221, 222, 223, 224, 225] (by decide +kernel) (by decide +kernel)) (goodIn_sub (fun _ h => List.mem_cons_of_mem _ (List.mem_append_left _ (List.mem_append_left _ (List.mem_append_right _ h)))) (by decide +kernel))
set_option maxRecDepth 20000 in
theorem gL_act_X5_takeBack : GoodIn wsL_act (wsV RL 31 RX5 yX5_takeBack wsX5_takeBack) := goodIn_app (goodIn_of _ (by decide +kernel)) ggL_act_X5_takeBack
set_option maxRecDepth 20000 in
theorem ggL_act_X5_price : GoodIn wsL_act wsX5_price := goodIn_ca (goodIn_r _ [89, 90, 91, 14, 92, 93, 94, 95, 10, 96, 199, 200, 201, 202, 203, 204, 205, 206, 207, 208, 209, 210, 211] (by decide +kernel) (by decide +kernel)) (goodIn_sub (fun _ h => List.mem_cons_of_mem _ (List.mem_append_left _ (List.mem_append_right _ h))) (by decide +kernel))
set_option maxRecDepth 20000 in
theorem gL_act_X5_price : GoodIn wsL_act (wsV RL 35 RX5 yX5_price wsX5_price) := goodIn_app (goodIn_of _ (by decide +kernel)) ggL_act_X5_price
set_option maxRecDepth 20000 in
theorem ggL_act_X5_endsIn : GoodIn wsL_act wsX5_endsIn := goodIn_ca (goodIn_r _ [100, 101, 102, 18, 103, 104, 14, 105, 106, 10, 107, 108, 109, 110, 111, 112, 113, 114, 115, 116, 117, 118, 119, 120, 121, 122, 123, 124, 125, 126, 127, 128, 129, 130, 131, 132, 133, 134, 135, 136, 55, 48, 56, 137, 138, 47, 49, 139, 140, 141, 142, 143, 144, 145, 146, 147, 148, 149, 150, 151, 152, 153, 154, 155, 156, 157, 158, 159, 160, 161, 162, 163, 164, 165, 166, 167, 168, 169, 170, 171, 172, 173, 174, 175, 176, 177, 178, 179, 21, 22, 23, 24, 25, 26, 27, 28, 29, 30, 31, 32, 33, 34, 35, 36, 37, 38, 39, 40, 41, 42, 43, 44, 45, 46, 50, 51, 52, 53, 54, 57, 58, 59, 60, 61, 62, 63, 64, 65, 66, 67, 68, 69, 70, 71, 72, 73, 180, 181, 182, 183, 184, 185, 186, 187, 188, 189, 190, 191, 192, 193, 194, 195, 196, 197, 198, 199, 200, 201, 202, 203, 212, 213, 214, 215, 216, 217, 218, 219, 220, 221, 222, 204, 205, 206, 207, 208, 209, 210, 211, 226, 227, 228, 229, 230, 231, 232, 233, 234, 235, 236, 237, 238, 239, 240, 241, 242, 223, 224, 225] (by decide +kernel) (by decide +kernel)) (goodIn_sub (fun _ h => List.mem_cons_of_mem _ (List.mem_append_right _ h)) (by decide +kernel))
set_option maxRecDepth 20000 in
theorem gL_act_X5_endsIn : GoodIn wsL_act (wsV RL 39 RX5 yX5_endsIn wsX5_endsIn) := goodIn_app (goodIn_of _ (by decide +kernel)) ggL_act_X5_endsIn
theorem dL_act_0 : decode cL_act 0 = .ok (.iload_n 1, 1) := by decide +kernel
theorem dL_act_1 : decode cL_act 1 = .ok (.ifCond .ne 21, 3) := by decide +kernel
theorem dL_act_4 : decode cL_act 4 = .ok (.aload_n 0, 1) := by decide +kernel
theorem dL_act_5 : decode cL_act 5 = .ok (.iload_n 2, 1) := by decide +kernel
theorem dL_act_6 : decode cL_act 6 = .ok (.iconst 1, 1) := by decide +kernel
theorem dL_act_7 : decode cL_act 7 = .ok (.if_icmp .ne 7, 3) := by decide +kernel
theorem dL_act_10 : decode cL_act 10 = .ok (.iconst 1, 1) := by decide +kernel
theorem dL_act_11 : decode cL_act 11 = .ok (.goto 4, 3) := by decide +kernel
theorem dL_act_14 : decode cL_act 14 = .ok (.iconst 0, 1) := by decide +kernel
theorem dL_act_15 : decode cL_act 15 = .ok (.invokevirtual 27, 3) := by decide +kernel
theorem dL_act_18 : decode cL_act 18 = .ok (.i2l, 1) := by decide +kernel
theorem dL_act_19 : decode cL_act 19 = .ok (.goto 35, 3) := by decide +kernel
theorem dL_act_22 : decode cL_act 22 = .ok (.iload_n 1, 1) := by decide +kernel
theorem dL_act_23 : decode cL_act 23 = .ok (.iconst 1, 1) := by decide +kernel
theorem dL_act_24 : decode cL_act 24 = .ok (.if_icmp .ne 11, 3) := by decide +kernel
theorem dL_act_27 : decode cL_act 27 = .ok (.aload_n 0, 1) := by decide +kernel
theorem dL_act_28 : decode cL_act 28 = .ok (.invokevirtual 31, 3) := by decide +kernel
theorem dL_act_31 : decode cL_act 31 = .ok (.i2l, 1) := by decide +kernel
theorem dL_act_32 : decode cL_act 32 = .ok (.goto 22, 3) := by decide +kernel
theorem dL_act_35 : decode cL_act 35 = .ok (.iload_n 1, 1) := by decide +kernel
theorem dL_act_36 : decode cL_act 36 = .ok (.iconst 2, 1) := by decide +kernel
theorem dL_act_37 : decode cL_act 37 = .ok (.if_icmp .ne 12, 3) := by decide +kernel
theorem dL_act_40 : decode cL_act 40 = .ok (.aload_n 0, 1) := by decide +kernel
theorem dL_act_41 : decode cL_act 41 = .ok (.iload_n 2, 1) := by decide +kernel
theorem dL_act_42 : decode cL_act 42 = .ok (.invokevirtual 35, 3) := by decide +kernel
theorem dL_act_45 : decode cL_act 45 = .ok (.i2l, 1) := by decide +kernel
theorem dL_act_46 : decode cL_act 46 = .ok (.goto 8, 3) := by decide +kernel
theorem dL_act_49 : decode cL_act 49 = .ok (.aload_n 0, 1) := by decide +kernel
theorem dL_act_50 : decode cL_act 50 = .ok (.iload_n 2, 1) := by decide +kernel
theorem dL_act_51 : decode cL_act 51 = .ok (.invokevirtual 39, 3) := by decide +kernel
theorem dL_act_54 : decode cL_act 54 = .ok (.lreturn, 1) := by decide +kernel
theorem dL_act_55 : decode cL_act 55 = .ok (.astore_n 3, 1) := by decide +kernel
theorem dL_act_56 : decode cL_act 56 = .ok (.ldc2_w 43, 3) := by decide +kernel
theorem dL_act_59 : decode cL_act 59 = .ok (.lreturn, 1) := by decide +kernel
theorem dL_act_60 : decode cL_act 60 = .ok (.astore_n 3, 1) := by decide +kernel
theorem dL_act_61 : decode cL_act 61 = .ok (.ldc2_w 45, 3) := by decide +kernel
theorem dL_act_64 : decode cL_act 64 = .ok (.lreturn, 1) := by decide +kernel
theorem dL_act_65 : decode cL_act 65 = .ok (.astore_n 3, 1) := by decide +kernel
theorem dL_act_66 : decode cL_act 66 = .ok (.ldc2_w 49, 3) := by decide +kernel
theorem dL_act_69 : decode cL_act 69 = .ok (.lreturn, 1) := by decide +kernel
set_option maxRecDepth 20000 in
theorem ggL_all_X5_told : GoodIn wsL_all wsX5_told := goodIn_r _ [13, 14, 15, 199, 200, 201, 202, 203, 204, 205, 206, 207, 208, 209, 210, 211] (by decide +kernel) (by decide +kernel)
set_option maxRecDepth 20000 in
theorem gL_all_X5_told : GoodIn wsL_all (wsV RL 51 RX5 yX5_told wsX5_told) := goodIn_app (goodIn_of _ (by decide +kernel)) ggL_all_X5_told
set_option maxRecDepth 20000 in
theorem ggL_all_X5_price : GoodIn wsL_all wsX5_price := goodIn_ca (goodIn_r _ [19, 20, 21, 14, 22, 23, 24, 25, 12, 26, 199, 200, 201, 202, 203, 204, 205, 206, 207, 208, 209, 210, 211] (by decide +kernel) (by decide +kernel)) (goodIn_sub (fun _ h => List.mem_cons_of_mem _ (List.mem_append_right _ h)) (by decide +kernel))
set_option maxRecDepth 20000 in
theorem gL_all_X5_price : GoodIn wsL_all (wsV RL 35 RX5 yX5_price wsX5_price) := goodIn_app (goodIn_of _ (by decide +kernel)) ggL_all_X5_price
set_option maxRecDepth 20000 in
theorem ggL_all_X5_paid : GoodIn wsL_all wsX5_paid := goodIn_r _ [30, 14, 31, 199, 200, 201, 202, 203, 204, 205, 206, 207, 208, 209, 210, 211] (by decide +kernel) (by decide +kernel)
set_option maxRecDepth 20000 in
theorem gL_all_X5_paid : GoodIn wsL_all (wsV RL 60 RX5 yX5_paid wsX5_paid) := goodIn_app (goodIn_of _ (by decide +kernel)) ggL_all_X5_paid
set_option maxRecDepth 20000 in
theorem ggL_all_X5_isOver : GoodIn wsL_all wsX5_isOver := goodIn_r _ [35, 14, 36, 199, 200, 201, 202, 203, 204, 205, 206, 207, 208, 209, 210, 211] (by decide +kernel) (by decide +kernel)
set_option maxRecDepth 20000 in
theorem gL_all_X5_isOver : GoodIn wsL_all (wsV RL 63 RX5 yX5_isOver wsX5_isOver) := goodIn_app (goodIn_of _ (by decide +kernel)) ggL_all_X5_isOver
set_option maxRecDepth 20000 in
theorem ggL_all_X5_isKnocked : GoodIn wsL_all wsX5_isKnocked := goodIn_r _ [40, 14, 41, 199, 200, 201, 202, 203, 204, 205, 206, 207, 208, 209, 210, 211] (by decide +kernel) (by decide +kernel)
set_option maxRecDepth 20000 in
theorem gL_all_X5_isKnocked : GoodIn wsL_all (wsV RL 69 RX5 yX5_isKnocked wsX5_isKnocked) := goodIn_app (goodIn_of _ (by decide +kernel)) ggL_all_X5_isKnocked
set_option maxRecDepth 20000 in
theorem ggL_all_X5_missed : GoodIn wsL_all wsX5_missed := goodIn_r _ [45, 14, 46, 199, 200, 201, 202, 203, 204, 205, 206, 207, 208, 209, 210, 211] (by decide +kernel) (by decide +kernel)
set_option maxRecDepth 20000 in
theorem gL_all_X5_missed : GoodIn wsL_all (wsV RL 76 RX5 yX5_missed wsX5_missed) := goodIn_app (goodIn_of _ (by decide +kernel)) ggL_all_X5_missed
set_option maxRecDepth 20000 in
theorem ggL_all_X5_worth : GoodIn wsL_all wsX5_worth := goodIn_r _ [50, 51, 52, 14, 53, 54, 55, 56, 57, 58, 59, 60, 61, 62, 63, 64, 65, 66, 67, 68, 69, 70, 71, 72, 73, 74, 75, 76, 77, 78, 79, 80, 81, 82, 83, 84, 85, 86, 87, 88, 89, 90, 91, 92, 93, 94, 95, 96, 97, 98, 99, 100, 101, 102, 103, 104, 105, 106, 107, 108, 109, 110, 111, 112, 113, 114, 115, 116, 117, 118, 119, 120, 121, 122, 123, 124, 125, 126, 127, 128, 129, 130, 131, 132, 133, 134, 135, 136, 137, 138, 139, 140, 141, 142, 143, 144, 145, 146, 147, 148, 149, 150, 151, 152, 153, 154, 155, 156, 157, 158, 159, 160, 161, 162, 163, 164, 165, 166, 167, 168, 169, 170, 171, 172, 173, 174, 175, 176, 177, 178, 179, 180, 181, 182, 183, 184, 185, 12, 186, 187, 188, 189, 190, 191, 192, 193, 199, 200, 201, 202, 203, 212, 213, 214, 215, 216, 217, 218, 219, 220, 204, 205, 206, 207, 208, 209, 210, 211, 221, 222, 223, 224, 225, 226, 227, 228, 229, 230, 231, 232, 233, 234, 235, 236, 237, 238, 239, 240, 241, 242] (by decide +kernel) (by decide +kernel)
set_option maxRecDepth 20000 in
theorem gL_all_X5_worth : GoodIn wsL_all (wsV RL 81 RX5 yX5_worth wsX5_worth) := goodIn_app (goodIn_of _ (by decide +kernel)) ggL_all_X5_worth
set_option maxRecDepth 20000 in
theorem ggL_all_X5_states : GoodIn wsL_all wsX5_states := goodIn_r _ [197, 51, 52, 14, 198, 54, 55, 56, 57, 58, 59, 60, 61, 62, 63, 64, 65, 66, 67, 68, 69, 70, 71, 72, 73, 74, 75, 76, 77, 78, 79, 80, 81, 82, 83, 84, 85, 86, 87, 88, 89, 90, 91, 92, 93, 94, 95, 96, 97, 98, 99, 100, 101, 102, 103, 104, 105, 106, 107, 108, 109, 110, 111, 112, 113, 114, 115, 116, 117, 118, 119, 120, 121, 122, 123, 124, 125, 126, 127, 128, 129, 130, 131, 132, 133, 134, 135, 136, 137, 138, 139, 140, 141, 142, 143, 144, 145, 146, 147, 148, 149, 150, 151, 152, 153, 154, 155, 156, 157, 158, 159, 160, 161, 162, 163, 164, 165, 166, 167, 168, 169, 170, 171, 172, 173, 174, 175, 176, 177, 178, 179, 180, 181, 182, 183, 184, 185, 12, 186, 187, 188, 189, 190, 191, 192, 193, 199, 200, 201, 202, 203, 212, 213, 214, 215, 216, 217, 218, 219, 220, 204, 205, 206, 207, 208, 209, 210, 211, 221, 222, 223, 224, 225, 226, 227, 228, 229, 230, 231, 232, 233, 234, 235, 236, 237, 238, 239, 240, 241, 242] (by decide +kernel) (by decide +kernel)
set_option maxRecDepth 20000 in
theorem gL_all_X5_states : GoodIn wsL_all (wsV RL 87 RX5 yX5_states wsX5_states) := goodIn_app (goodIn_of _ (by decide +kernel)) ggL_all_X5_states
theorem dL_all_0 : decode cL_all 0 = .ok (.aload_n 0, 1) := by decide +kernel
theorem dL_all_1 : decode cL_all 1 = .ok (.invokevirtual 51, 3) := by decide +kernel
theorem dL_all_4 : decode cL_all 4 = .ok (.i2l, 1) := by decide +kernel
theorem dL_all_5 : decode cL_all 5 = .ok (.ldc2_w 54, 3) := by decide +kernel
theorem dL_all_8 : decode cL_all 8 = .ok (.aload_n 0, 1) := by decide +kernel
theorem dL_all_9 : decode cL_all 9 = .ok (.iconst 0, 1) := by decide +kernel
theorem dL_all_10 : decode cL_all 10 = .ok (.invokevirtual 35, 3) := by decide +kernel
theorem dL_all_13 : decode cL_all 13 = .ok (.i2l, 1) := by decide +kernel
theorem dL_all_14 : decode cL_all 14 = .ok (.lmul, 1) := by decide +kernel
theorem dL_all_15 : decode cL_all 15 = .ok (.ladd, 1) := by decide +kernel
theorem dL_all_16 : decode cL_all 16 = .ok (.ldc2_w 56, 3) := by decide +kernel
theorem dL_all_19 : decode cL_all 19 = .ok (.aload_n 0, 1) := by decide +kernel
theorem dL_all_20 : decode cL_all 20 = .ok (.iconst 1, 1) := by decide +kernel
theorem dL_all_21 : decode cL_all 21 = .ok (.invokevirtual 35, 3) := by decide +kernel
theorem dL_all_24 : decode cL_all 24 = .ok (.i2l, 1) := by decide +kernel
theorem dL_all_25 : decode cL_all 25 = .ok (.lmul, 1) := by decide +kernel
theorem dL_all_26 : decode cL_all 26 = .ok (.ladd, 1) := by decide +kernel
theorem dL_all_27 : decode cL_all 27 = .ok (.ldc2_w 58, 3) := by decide +kernel
theorem dL_all_30 : decode cL_all 30 = .ok (.aload_n 0, 1) := by decide +kernel
theorem dL_all_31 : decode cL_all 31 = .ok (.invokevirtual 60, 3) := by decide +kernel
theorem dL_all_34 : decode cL_all 34 = .ok (.i2l, 1) := by decide +kernel
theorem dL_all_35 : decode cL_all 35 = .ok (.lmul, 1) := by decide +kernel
theorem dL_all_36 : decode cL_all 36 = .ok (.ladd, 1) := by decide +kernel
theorem dL_all_37 : decode cL_all 37 = .ok (.aload_n 0, 1) := by decide +kernel
theorem dL_all_38 : decode cL_all 38 = .ok (.invokevirtual 63, 3) := by decide +kernel
theorem dL_all_41 : decode cL_all 41 = .ok (.ifCond .eq 9, 3) := by decide +kernel
theorem dL_all_44 : decode cL_all 44 = .ok (.ldc2_w 67, 3) := by decide +kernel
theorem dL_all_47 : decode cL_all 47 = .ok (.goto 4, 3) := by decide +kernel
theorem dL_all_50 : decode cL_all 50 = .ok (.lconst 0, 1) := by decide +kernel
theorem dL_all_51 : decode cL_all 51 = .ok (.ladd, 1) := by decide +kernel
theorem dL_all_52 : decode cL_all 52 = .ok (.aload_n 0, 1) := by decide +kernel
theorem dL_all_53 : decode cL_all 53 = .ok (.invokevirtual 69, 3) := by decide +kernel
theorem dL_all_56 : decode cL_all 56 = .ok (.ifCond .eq 9, 3) := by decide +kernel
theorem dL_all_59 : decode cL_all 59 = .ok (.ldc2_w 72, 3) := by decide +kernel
theorem dL_all_62 : decode cL_all 62 = .ok (.goto 4, 3) := by decide +kernel
theorem dL_all_65 : decode cL_all 65 = .ok (.lconst 0, 1) := by decide +kernel
theorem dL_all_66 : decode cL_all 66 = .ok (.ladd, 1) := by decide +kernel
theorem dL_all_67 : decode cL_all 67 = .ok (.ldc2_w 74, 3) := by decide +kernel
theorem dL_all_70 : decode cL_all 70 = .ok (.aload_n 0, 1) := by decide +kernel
theorem dL_all_71 : decode cL_all 71 = .ok (.invokevirtual 76, 3) := by decide +kernel
theorem dL_all_74 : decode cL_all 74 = .ok (.i2l, 1) := by decide +kernel
theorem dL_all_75 : decode cL_all 75 = .ok (.lmul, 1) := by decide +kernel
theorem dL_all_76 : decode cL_all 76 = .ok (.ladd, 1) := by decide +kernel
theorem dL_all_77 : decode cL_all 77 = .ok (.ldc2_w 79, 3) := by decide +kernel
theorem dL_all_80 : decode cL_all 80 = .ok (.aload_n 0, 1) := by decide +kernel
theorem dL_all_81 : decode cL_all 81 = .ok (.invokevirtual 81, 3) := by decide +kernel
theorem dL_all_84 : decode cL_all 84 = .ok (.lmul, 1) := by decide +kernel
theorem dL_all_85 : decode cL_all 85 = .ok (.ladd, 1) := by decide +kernel
theorem dL_all_86 : decode cL_all 86 = .ok (.ldc2_w 85, 3) := by decide +kernel
theorem dL_all_89 : decode cL_all 89 = .ok (.aload_n 0, 1) := by decide +kernel
theorem dL_all_90 : decode cL_all 90 = .ok (.invokevirtual 87, 3) := by decide +kernel
theorem dL_all_93 : decode cL_all 93 = .ok (.i2l, 1) := by decide +kernel
theorem dL_all_94 : decode cL_all 94 = .ok (.lmul, 1) := by decide +kernel
theorem dL_all_95 : decode cL_all 95 = .ok (.ladd, 1) := by decide +kernel
theorem dL_all_96 : decode cL_all 96 = .ok (.lreturn, 1) := by decide +kernel
set_option maxRecDepth 20000 in
theorem ggL_level_X5_price : GoodIn wsL_level wsX5_price := goodIn_ca (goodIn_r _ [5, 6, 7, 8, 9, 10, 11, 12, 4, 13, 14, 15, 16, 17, 18, 19, 20, 21, 22, 23, 24, 25, 26] (by decide +kernel) (by decide +kernel)) (goodIn_sub (fun _ h => List.mem_cons_of_mem _ (List.mem_append_right _ h)) (by decide +kernel))
set_option maxRecDepth 20000 in
theorem gL_level_X5_price : GoodIn wsL_level (wsV RL 35 RX5 yX5_price wsX5_price) := goodIn_app (goodIn_of _ (by decide +kernel)) ggL_level_X5_price
theorem dL_level_0 : decode cL_level 0 = .ok (.aload_n 0, 1) := by decide +kernel
theorem dL_level_1 : decode cL_level 1 = .ok (.iload_n 2, 1) := by decide +kernel
theorem dL_level_2 : decode cL_level 2 = .ok (.invokevirtual 35, 3) := by decide +kernel
theorem dL_level_5 : decode cL_level 5 = .ok (.bipush 100, 2) := by decide +kernel
theorem dL_level_7 : decode cL_level 7 = .ok (.imul, 1) := by decide +kernel
theorem dL_level_8 : decode cL_level 8 = .ok (.aload_n 1, 1) := by decide +kernel
theorem dL_level_9 : decode cL_level 9 = .ok (.iconst 3, 1) := by decide +kernel
theorem dL_level_10 : decode cL_level 10 = .ok (.iload_n 2, 1) := by decide +kernel
theorem dL_level_11 : decode cL_level 11 = .ok (.imul, 1) := by decide +kernel
theorem dL_level_12 : decode cL_level 12 = .ok (.iaload, 1) := by decide +kernel
theorem dL_level_13 : decode cL_level 13 = .ok (.idiv, 1) := by decide +kernel
theorem dL_level_14 : decode cL_level 14 = .ok (.ireturn, 1) := by decide +kernel
set_option maxRecDepth 20000 in
theorem ggL_areNumbers_X5_told : GoodIn wsL_areNumbers wsX5_told := goodIn_r _ [7, 8, 9, 254, 255, 256, 257, 258, 259, 260, 261, 262, 263, 264, 265, 266] rfl (by decide +kernel)
set_option maxRecDepth 20000 in
theorem gL_areNumbers_X5_told : GoodIn wsL_areNumbers (wsV RL 51 RX5 yX5_told wsX5_told) := goodIn_app (goodIn_of _ (by decide +kernel)) ggL_areNumbers_X5_told
set_option maxRecDepth 20000 in
theorem ggL_areNumbers_X5_isOver : GoodIn wsL_areNumbers wsX5_isOver := goodIn_r _ [13, 8, 14, 254, 255, 256, 257, 258, 259, 260, 261, 262, 263, 264, 265, 266] rfl (by decide +kernel)
set_option maxRecDepth 20000 in
theorem gL_areNumbers_X5_isOver : GoodIn wsL_areNumbers (wsV RL 63 RX5 yX5_isOver wsX5_isOver) := goodIn_app (goodIn_of _ (by decide +kernel)) ggL_areNumbers_X5_isOver
set_option maxRecDepth 20000 in
theorem ggL_areNumbers_X5_divisor : GoodIn wsL_areNumbers wsX5_divisor := goodIn_r _ [18, 8, 14, 19, 20, 9, 21, 22, 6, 23, 24, 254, 255, 256, 257, 258, 259, 260, 261, 262, 263, 264, 265, 266, 267, 268, 269, 270, 271, 272, 273, 274, 275, 276, 277] rfl (by decide +kernel)
set_option maxRecDepth 20000 in
theorem gL_areNumbers_X5_divisor : GoodIn wsL_areNumbers (wsV RL 90 RX5 yX5_divisor wsX5_divisor) := goodIn_app (goodIn_of _ (by decide +kernel)) ggL_areNumbers_X5_divisor
set_option maxRecDepth 20000 in
theorem ggL_areNumbers_X5_missed : GoodIn wsL_areNumbers wsX5_missed := goodIn_r _ [28, 8, 29, 254, 255, 256, 257, 258, 259, 260, 261, 262, 263, 264, 265, 266] rfl (by decide +kernel)
set_option maxRecDepth 20000 in
theorem gL_areNumbers_X5_missed : GoodIn wsL_areNumbers (wsV RL 76 RX5 yX5_missed wsX5_missed) := goodIn_app (goodIn_of _ (by decide +kernel)) ggL_areNumbers_X5_missed
set_option maxRecDepth 20000 in
theorem ggL_areNumbers_X5_worth : GoodIn wsL_areNumbers wsX5_worth := goodIn_r _ [33, 34, 19, 8, 35, 36, 37, 38, 39, 40, 41, 42, 43, 44, 45, 46, 47, 48, 49, 50, 51, 52, 53, 54, 55, 56, 57, 58, 59, 60, 61, 62, 63, 64, 65, 66, 67, 68, 69, 70, 71, 72, 73, 74, 75, 76, 77, 78, 79, 80, 81, 82, 83, 84, 85, 86, 87, 88, 89, 90, 91, 92, 93, 94, 95, 96, 97, 98, 99, 100, 101, 102, 103, 104, 105, 106, 107, 108, 109, 110, 111, 112, 113, 114, 115, 116, 117, 118, 119, 120, 121, 122, 123, 124, 125, 126, 127, 128, 129, 130, 131, 132, 133, 134, 135, 136, 137, 138, 139, 140, 141, 142, 143, 144, 145, 146, 147, 148, 149, 150, 151, 152, 153, 154, 155, 156, 157, 158, 159, 160, 161, 162, 163, 164, 165, 166, 22, 6, 23, 24, 167, 168, 169, 170, 171, 172, 254, 255, 256, 257, 258, 278, 279, 280, 281, 282, 283, 284, 285, 286, 259, 260, 261, 262, 263, 264, 265, 266, 287, 288, 289, 290, 291, 292, 293, 294, 267, 268, 269, 270, 271, 272, 273, 274, 275, 276, 277, 295, 296, 297] rfl (by decide +kernel)
set_option maxRecDepth 20000 in
theorem gL_areNumbers_X5_worth : GoodIn wsL_areNumbers (wsV RL 81 RX5 yX5_worth wsX5_worth) := goodIn_app (goodIn_of _ (by decide +kernel)) ggL_areNumbers_X5_worth
set_option maxRecDepth 20000 in
theorem ggL_areNumbers_X5_knocks : GoodIn wsL_areNumbers wsX5_knocks := goodIn_r _ [176, 34, 19, 8, 177, 36, 37, 38, 39, 40, 41, 42, 43, 44, 45, 46, 47, 48, 49, 50, 51, 52, 53, 54, 55, 56, 57, 58, 59, 60, 61, 62, 63, 64, 65, 66, 67, 68, 69, 70, 71, 72, 73, 74, 75, 76, 77, 78, 79, 80, 81, 82, 83, 84, 85, 86, 87, 88, 89, 90, 91, 92, 93, 94, 95, 96, 97, 98, 99, 100, 101, 102, 103, 104, 105, 106, 107, 108, 109, 110, 111, 112, 113, 114, 115, 116, 117, 118, 119, 120, 121, 122, 123, 124, 125, 126, 127, 128, 129, 130, 131, 132, 133, 134, 135, 136, 137, 138, 139, 140, 141, 142, 143, 144, 145, 146, 147, 148, 149, 150, 151, 152, 153, 154, 155, 156, 157, 158, 159, 160, 161, 162, 163, 164, 165, 166, 22, 6, 23, 24, 167, 168, 169, 170, 171, 172, 254, 255, 256, 257, 258, 278, 279, 280, 281, 282, 283, 284, 285, 286, 259, 260, 261, 262, 263, 264, 265, 266, 287, 288, 289, 290, 291, 292, 293, 294, 267, 268, 269, 270, 271, 272, 273, 274, 275, 276, 277, 295, 296, 297] rfl (by decide +kernel)
set_option maxRecDepth 20000 in
theorem gL_areNumbers_X5_knocks : GoodIn wsL_areNumbers (wsV RL 97 RX5 yX5_knocks wsX5_knocks) := goodIn_app (goodIn_of _ (by decide +kernel)) ggL_areNumbers_X5_knocks
set_option maxRecDepth 20000 in
theorem ggL_areNumbers_X5_least : GoodIn wsL_areNumbers wsX5_least := goodIn_r _ [181, 34, 19, 8, 182, 36, 37, 38, 39, 40, 41, 42, 43, 44, 45, 46, 47, 48, 49, 50, 51, 52, 53, 54, 55, 56, 57, 58, 59, 60, 61, 62, 63, 64, 65, 66, 67, 68, 69, 70, 71, 72, 73, 74, 75, 76, 77, 78, 79, 80, 81, 82, 83, 84, 85, 86, 87, 88, 89, 90, 91, 92, 93, 94, 95, 96, 97, 98, 99, 100, 101, 102, 103, 104, 105, 106, 107, 108, 109, 110, 111, 112, 113, 114, 115, 116, 117, 118, 119, 120, 121, 122, 123, 124, 125, 126, 127, 128, 129, 130, 131, 132, 133, 134, 135, 136, 137, 138, 139, 140, 141, 142, 143, 144, 145, 146, 147, 148, 149, 150, 151, 152, 153, 154, 155, 156, 157, 158, 159, 160, 161, 162, 163, 164, 165, 166, 22, 6, 23, 24, 167, 168, 169, 170, 171, 172, 254, 255, 256, 257, 258, 278, 279, 280, 281, 282, 283, 284, 285, 286, 259, 260, 261, 262, 263, 264, 265, 266, 287, 288, 289, 290, 291, 292, 293, 294, 267, 268, 269, 270, 271, 272, 273, 274, 275, 276, 277, 295, 296, 297] rfl (by decide +kernel)
set_option maxRecDepth 20000 in
theorem gL_areNumbers_X5_least : GoodIn wsL_areNumbers (wsV RL 100 RX5 yX5_least wsX5_least) := goodIn_app (goodIn_of _ (by decide +kernel)) ggL_areNumbers_X5_least
set_option maxRecDepth 20000 in
theorem ggL_areNumbers_X5_most : GoodIn wsL_areNumbers wsX5_most := goodIn_r _ [186, 34, 19, 8, 187, 36, 37, 38, 39, 40, 41, 42, 43, 44, 45, 46, 47, 48, 49, 50, 51, 52, 53, 54, 55, 56, 57, 58, 59, 60, 61, 62, 63, 64, 65, 66, 67, 68, 69, 70, 71, 72, 73, 74, 75, 76, 77, 78, 79, 80, 81, 82, 83, 84, 85, 86, 87, 88, 89, 90, 91, 92, 93, 94, 95, 96, 97, 98, 99, 100, 101, 102, 103, 104, 105, 106, 107, 108, 109, 110, 111, 112, 113, 114, 115, 116, 117, 118, 119, 120, 121, 122, 123, 124, 125, 126, 127, 128, 129, 130, 131, 132, 133, 134, 135, 136, 137, 138, 139, 140, 141, 142, 143, 144, 145, 146, 147, 148, 149, 150, 151, 152, 153, 154, 155, 156, 157, 158, 159, 160, 161, 162, 163, 164, 165, 166, 22, 6, 23, 24, 167, 168, 169, 170, 171, 172, 254, 255, 256, 257, 258, 278, 279, 280, 281, 282, 283, 284, 285, 286, 259, 260, 261, 262, 263, 264, 265, 266, 287, 288, 289, 290, 291, 292, 293, 294, 267, 268, 269, 270, 271, 272, 273, 274, 275, 276, 277, 295, 296, 297] rfl (by decide +kernel)
set_option maxRecDepth 20000 in
theorem gL_areNumbers_X5_most : GoodIn wsL_areNumbers (wsV RL 103 RX5 yX5_most wsX5_most) := goodIn_app (goodIn_of _ (by decide +kernel)) ggL_areNumbers_X5_most
set_option maxRecDepth 20000 in
theorem ggL_areNumbers_X5_states : GoodIn wsL_areNumbers wsX5_states := goodIn_r _ [191, 34, 19, 8, 192, 36, 37, 38, 39, 40, 41, 42, 43, 44, 45, 46, 47, 48, 49, 50, 51, 52, 53, 54, 55, 56, 57, 58, 59, 60, 61, 62, 63, 64, 65, 66, 67, 68, 69, 70, 71, 72, 73, 74, 75, 76, 77, 78, 79, 80, 81, 82, 83, 84, 85, 86, 87, 88, 89, 90, 91, 92, 93, 94, 95, 96, 97, 98, 99, 100, 101, 102, 103, 104, 105, 106, 107, 108, 109, 110, 111, 112, 113, 114, 115, 116, 117, 118, 119, 120, 121, 122, 123, 124, 125, 126, 127, 128, 129, 130, 131, 132, 133, 134, 135, 136, 137, 138, 139, 140, 141, 142, 143, 144, 145, 146, 147, 148, 149, 150, 151, 152, 153, 154, 155, 156, 157, 158, 159, 160, 161, 162, 163, 164, 165, 166, 22, 6, 23, 24, 167, 168, 169, 170, 171, 172, 254, 255, 256, 257, 258, 278, 279, 280, 281, 282, 283, 284, 285, 286, 259, 260, 261, 262, 263, 264, 265, 266, 287, 288, 289, 290, 291, 292, 293, 294, 267, 268, 269, 270, 271, 272, 273, 274, 275, 276, 277, 295, 296, 297] rfl (by decide +kernel)
set_option maxRecDepth 20000 in
theorem gL_areNumbers_X5_states : GoodIn wsL_areNumbers (wsV RL 87 RX5 yX5_states wsX5_states) := goodIn_app (goodIn_of _ (by decide +kernel)) ggL_areNumbers_X5_states
set_option maxRecDepth 20000 in
theorem ggL_areNumbers_X5_paid : GoodIn wsL_areNumbers wsX5_paid := goodIn_r _ [196, 8, 197, 254, 255, 256, 257, 258, 259, 260, 261, 262, 263, 264, 265, 266] rfl (by decide +kernel)
set_option maxRecDepth 20000 in
theorem gL_areNumbers_X5_paid : GoodIn wsL_areNumbers (wsV RL 60 RX5 yX5_paid wsX5_paid) := goodIn_app (goodIn_of _ (by decide +kernel)) ggL_areNumbers_X5_paid
set_option maxRecDepth 20000 in
theorem ggL_areNumbers_X5_worthByPaths : GoodIn wsL_areNumbers wsX5_worthByPaths := goodIn_r _ [201, 8, 14, 19, 20, 9, 202, 203, 204, 6, 205, 206, 24, 197, 207, 208, 209, 115, 210, 117, 119, 121, 154, 126, 129, 127, 130, 211, 212, 213, 214, 162, 163, 164, 165, 166, 215, 113, 114, 116, 118, 120, 122, 123, 124, 125, 128, 131, 132, 133, 134, 135, 136, 137, 138, 70, 66, 71, 139, 140, 141, 142, 143, 65, 67, 144, 145, 146, 147, 148, 149, 150, 151, 152, 153, 155, 156, 157, 158, 159, 160, 254, 255, 256, 257, 258, 259, 260, 261, 262, 263, 264, 265, 266, 267, 268, 269, 270, 271, 272, 273, 274, 275, 276, 277, 295, 296, 297] rfl (by decide +kernel)
set_option maxRecDepth 20000 in
theorem gL_areNumbers_X5_worthByPaths : GoodIn wsL_areNumbers (wsV RL 106 RX5 yX5_worthByPaths wsX5_worthByPaths) := goodIn_app (goodIn_of _ (by decide +kernel)) ggL_areNumbers_X5_worthByPaths
set_option maxRecDepth 20000 in
theorem ggL_areNumbers_X5_worst : GoodIn wsL_areNumbers wsX5_worst := goodIn_r _ [219, 8, 19, 220, 140, 141, 115, 142, 118, 119, 120, 121, 143, 65, 66, 67, 144, 145, 146, 134, 147, 148, 254, 255, 256, 257, 258, 267, 268, 269, 270, 271, 272, 273, 274, 275, 276, 277, 259, 260, 261, 262, 263, 264, 265, 266, 295, 296, 297] rfl (by decide +kernel)
set_option maxRecDepth 20000 in
theorem gL_areNumbers_X5_worst : GoodIn wsL_areNumbers (wsV RL 109 RX5 yX5_worst wsX5_worst) := goodIn_app (goodIn_of _ (by decide +kernel)) ggL_areNumbers_X5_worst
set_option maxRecDepth 20000 in
theorem ggL_areNumbers_L_level : GoodIn wsL_areNumbers wsL_level := goodIn_ca (goodIn_r _ [224, 225, 226, 227, 6, 228, 229, 230, 8, 231, 232, 233, 234, 235, 254, 255, 256, 257, 258, 259, 260, 261, 262, 263, 264, 265, 266] rfl (by decide +kernel)) (goodIn_sub (fun _ h => List.mem_cons_of_mem _ (List.mem_append_left _ (List.mem_append_right _ h))) (by decide +kernel))
set_option maxRecDepth 20000 in
theorem gL_areNumbers_L_level : GoodIn wsL_areNumbers (va_wsS RL 112 yL_level wsL_level) := goodIn_app (goodIn_of _ (by decide +kernel)) ggL_areNumbers_L_level
set_option maxRecDepth 20000 in
theorem ggL_areNumbers_X5_price : GoodIn wsL_areNumbers wsX5_price := goodIn_ca (goodIn_r _ [228, 229, 230, 8, 231, 232, 233, 234, 6, 235, 254, 255, 256, 257, 258, 259, 260, 261, 262, 263, 264, 265, 266] rfl (by decide +kernel)) (goodIn_sub (fun _ h => List.mem_cons_of_mem _ (List.mem_append_left _ (List.mem_append_right _ h))) (by decide +kernel))
set_option maxRecDepth 20000 in
theorem gL_areNumbers_X5_price : GoodIn wsL_areNumbers (wsV RL 35 RX5 yX5_price wsX5_price) := goodIn_app (goodIn_of _ (by decide +kernel)) ggL_areNumbers_X5_price
set_option maxRecDepth 20000 in
theorem ggL_areNumbers_X5_endsIn : GoodIn wsL_areNumbers wsX5_endsIn := goodIn_ca (goodIn_r _ [239, 240, 241, 19, 20, 34, 8, 242, 243, 6, 244, 36, 37, 38, 39, 40, 41, 42, 43, 44, 45, 46, 47, 48, 49, 50, 51, 52, 53, 54, 55, 56, 57, 58, 59, 60, 61, 62, 63, 64, 65, 66, 67, 68, 69, 70, 71, 72, 73, 74, 75, 76, 77, 78, 79, 80, 81, 82, 83, 84, 85, 86, 87, 88, 89, 90, 91, 92, 93, 94, 95, 96, 97, 98, 99, 100, 101, 102, 103, 104, 105, 106, 107, 108, 109, 110, 111, 112, 113, 114, 115, 116, 117, 118, 119, 120, 121, 122, 123, 124, 125, 126, 127, 128, 129, 130, 131, 132, 133, 134, 135, 136, 137, 138, 139, 140, 141, 142, 143, 144, 145, 146, 147, 148, 149, 150, 151, 152, 153, 154, 155, 156, 157, 158, 159, 160, 161, 162, 163, 164, 165, 166, 22, 23, 24, 167, 168, 169, 170, 171, 172, 245, 246, 247, 248, 254, 255, 256, 257, 258, 267, 268, 269, 270, 271, 272, 273, 274, 275, 276, 277, 259, 260, 261, 262, 263, 264, 265, 266, 278, 279, 280, 281, 282, 283, 284, 285, 286, 287, 288, 289, 290, 291, 292, 293, 294, 295, 296, 297] rfl (by decide +kernel)) (goodIn_sub (fun _ h => List.mem_cons_of_mem _ (List.mem_append_right _ h)) (by decide +kernel))
set_option maxRecDepth 20000 in
theorem gL_areNumbers_X5_endsIn : GoodIn wsL_areNumbers (wsV RL 39 RX5 yX5_endsIn wsX5_endsIn) := goodIn_app (goodIn_of _ (by decide +kernel)) ggL_areNumbers_X5_endsIn
set_option maxRecDepth 20000 in
theorem ggL_areNumbers_X5_isKnocked : GoodIn wsL_areNumbers wsX5_isKnocked := goodIn_r _ [252, 8, 253, 254, 255, 256, 257, 258, 259, 260, 261, 262, 263, 264, 265, 266] rfl (by decide +kernel)
set_option maxRecDepth 20000 in
theorem gL_areNumbers_X5_isKnocked : GoodIn wsL_areNumbers (wsV RL 69 RX5 yX5_isKnocked wsX5_isKnocked) := goodIn_app (goodIn_of _ (by decide +kernel)) ggL_areNumbers_X5_isKnocked
theorem dL_areNumbers_0 : decode cL_areNumbers 0 = .ok (.aload_n 1, 1) := by decide +kernel
theorem dL_areNumbers_1 : decode cL_areNumbers 1 = .ok (.bipush 8, 2) := by decide +kernel
theorem dL_areNumbers_3 : decode cL_areNumbers 3 = .ok (.iaload, 1) := by decide +kernel
theorem dL_areNumbers_4 : decode cL_areNumbers 4 = .ok (.aload_n 0, 1) := by decide +kernel
theorem dL_areNumbers_5 : decode cL_areNumbers 5 = .ok (.invokevirtual 51, 3) := by decide +kernel
theorem dL_areNumbers_8 : decode cL_areNumbers 8 = .ok (.isub, 1) := by decide +kernel
theorem dL_areNumbers_9 : decode cL_areNumbers 9 = .ok (.iconst 4, 1) := by decide +kernel
theorem dL_areNumbers_10 : decode cL_areNumbers 10 = .ok (.if_icmp .le 53, 3) := by decide +kernel
theorem dL_areNumbers_13 : decode cL_areNumbers 13 = .ok (.aload_n 0, 1) := by decide +kernel
theorem dL_areNumbers_14 : decode cL_areNumbers 14 = .ok (.invokevirtual 63, 3) := by decide +kernel
theorem dL_areNumbers_17 : decode cL_areNumbers 17 = .ok (.ifCond .ne 46, 3) := by decide +kernel
theorem dL_areNumbers_20 : decode cL_areNumbers 20 = .ok (.iload_n 3, 1) := by decide +kernel
theorem dL_areNumbers_21 : decode cL_areNumbers 21 = .ok (.ifCond .ne 42, 3) := by decide +kernel
theorem dL_areNumbers_24 : decode cL_areNumbers 24 = .ok (.aload_n 0, 1) := by decide +kernel
theorem dL_areNumbers_25 : decode cL_areNumbers 25 = .ok (.invokevirtual 51, 3) := by decide +kernel
theorem dL_areNumbers_28 : decode cL_areNumbers 28 = .ok (.aload_n 1, 1) := by decide +kernel
theorem dL_areNumbers_29 : decode cL_areNumbers 29 = .ok (.bipush 8, 2) := by decide +kernel
theorem dL_areNumbers_31 : decode cL_areNumbers 31 = .ok (.iaload, 1) := by decide +kernel
theorem dL_areNumbers_32 : decode cL_areNumbers 32 = .ok (.if_icmp .ge 29, 3) := by decide +kernel
theorem dL_areNumbers_35 : decode cL_areNumbers 35 = .ok (.aload_n 0, 1) := by decide +kernel
theorem dL_areNumbers_36 : decode cL_areNumbers 36 = .ok (.invokevirtual 90, 3) := by decide +kernel
theorem dL_areNumbers_39 : decode cL_areNumbers 39 = .ok (.ldc2_w 93, 3) := by decide +kernel
theorem dL_areNumbers_42 : decode cL_areNumbers 42 = .ok (.lcmp, 1) := by decide +kernel
theorem dL_areNumbers_43 : decode cL_areNumbers 43 = .ok (.ifCond .lt 18, 3) := by decide +kernel
theorem dL_areNumbers_46 : decode cL_areNumbers 46 = .ok (.aload_n 0, 1) := by decide +kernel
theorem dL_areNumbers_47 : decode cL_areNumbers 47 = .ok (.invokevirtual 76, 3) := by decide +kernel
theorem dL_areNumbers_50 : decode cL_areNumbers 50 = .ok (.aload_n 0, 1) := by decide +kernel
theorem dL_areNumbers_51 : decode cL_areNumbers 51 = .ok (.invokevirtual 51, 3) := by decide +kernel
theorem dL_areNumbers_54 : decode cL_areNumbers 54 = .ok (.if_icmp .gt 7, 3) := by decide +kernel
theorem dL_areNumbers_57 : decode cL_areNumbers 57 = .ok (.iconst 1, 1) := by decide +kernel
theorem dL_areNumbers_58 : decode cL_areNumbers 58 = .ok (.goto 4, 3) := by decide +kernel
theorem dL_areNumbers_61 : decode cL_areNumbers 61 = .ok (.iconst 0, 1) := by decide +kernel
theorem dL_areNumbers_62 : decode cL_areNumbers 62 = .ok (.ireturn, 1) := by decide +kernel
theorem dL_areNumbers_63 : decode cL_areNumbers 63 = .ok (.iconst 0, 1) := by decide +kernel
theorem dL_areNumbers_64 : decode cL_areNumbers 64 = .ok (.istore 4, 2) := by decide +kernel
theorem dL_areNumbers_66 : decode cL_areNumbers 66 = .ok (.lconst 1, 1) := by decide +kernel
theorem dL_areNumbers_67 : decode cL_areNumbers 67 = .ok (.lstore 5, 2) := by decide +kernel
theorem dL_areNumbers_69 : decode cL_areNumbers 69 = .ok (.lconst 0, 1) := by decide +kernel
theorem dL_areNumbers_70 : decode cL_areNumbers 70 = .ok (.lstore 7, 2) := by decide +kernel
theorem dL_areNumbers_72 : decode cL_areNumbers 72 = .ok (.iconst 0, 1) := by decide +kernel
theorem dL_areNumbers_73 : decode cL_areNumbers 73 = .ok (.istore 9, 2) := by decide +kernel
theorem dL_areNumbers_75 : decode cL_areNumbers 75 = .ok (.iload 9, 2) := by decide +kernel
theorem dL_areNumbers_77 : decode cL_areNumbers 77 = .ok (.aload_n 0, 1) := by decide +kernel
theorem dL_areNumbers_78 : decode cL_areNumbers 78 = .ok (.invokevirtual 51, 3) := by decide +kernel
theorem dL_areNumbers_81 : decode cL_areNumbers 81 = .ok (.if_icmp .ge 18, 3) := by decide +kernel
theorem dL_areNumbers_84 : decode cL_areNumbers 84 = .ok (.iload 4, 2) := by decide +kernel
theorem dL_areNumbers_86 : decode cL_areNumbers 86 = .ok (.aload_n 2, 1) := by decide +kernel
theorem dL_areNumbers_87 : decode cL_areNumbers 87 = .ok (.iload 9, 2) := by decide +kernel
theorem dL_areNumbers_89 : decode cL_areNumbers 89 = .ok (.iaload, 1) := by decide +kernel
theorem dL_areNumbers_90 : decode cL_areNumbers 90 = .ok (.iadd, 1) := by decide +kernel
theorem dL_areNumbers_91 : decode cL_areNumbers 91 = .ok (.istore 4, 2) := by decide +kernel
theorem dL_areNumbers_93 : decode cL_areNumbers 93 = .ok (.iinc 9 1, 3) := by decide +kernel
theorem dL_areNumbers_96 : decode cL_areNumbers 96 = .ok (.goto (-21), 3) := by decide +kernel
theorem dL_areNumbers_99 : decode cL_areNumbers 99 = .ok (.aload_n 0, 1) := by decide +kernel
theorem dL_areNumbers_100 : decode cL_areNumbers 100 = .ok (.invokevirtual 51, 3) := by decide +kernel
theorem dL_areNumbers_103 : decode cL_areNumbers 103 = .ok (.istore 9, 2) := by decide +kernel
theorem dL_areNumbers_105 : decode cL_areNumbers 105 = .ok (.iload 9, 2) := by decide +kernel
theorem dL_areNumbers_107 : decode cL_areNumbers 107 = .ok (.aload_n 1, 1) := by decide +kernel
theorem dL_areNumbers_108 : decode cL_areNumbers 108 = .ok (.bipush 8, 2) := by decide +kernel
theorem dL_areNumbers_110 : decode cL_areNumbers 110 = .ok (.iaload, 1) := by decide +kernel
theorem dL_areNumbers_111 : decode cL_areNumbers 111 = .ok (.if_icmp .ge 24, 3) := by decide +kernel
theorem dL_areNumbers_114 : decode cL_areNumbers 114 = .ok (.aload_n 0, 1) := by decide +kernel
theorem dL_areNumbers_115 : decode cL_areNumbers 115 = .ok (.invokevirtual 63, 3) := by decide +kernel
theorem dL_areNumbers_118 : decode cL_areNumbers 118 = .ok (.ifCond .ne 17, 3) := by decide +kernel
theorem dL_areNumbers_121 : decode cL_areNumbers 121 = .ok (.lload 5, 2) := by decide +kernel
theorem dL_areNumbers_123 : decode cL_areNumbers 123 = .ok (.ldc2_w 95, 3) := by decide +kernel
theorem dL_areNumbers_126 : decode cL_areNumbers 126 = .ok (.lmul, 1) := by decide +kernel
theorem dL_areNumbers_127 : decode cL_areNumbers 127 = .ok (.lstore 5, 2) := by decide +kernel
theorem dL_areNumbers_129 : decode cL_areNumbers 129 = .ok (.iinc 9 1, 3) := by decide +kernel
theorem dL_areNumbers_132 : decode cL_areNumbers 132 = .ok (.goto (-27), 3) := by decide +kernel
theorem dL_areNumbers_135 : decode cL_areNumbers 135 = .ok (.aload_n 0, 1) := by decide +kernel
theorem dL_areNumbers_136 : decode cL_areNumbers 136 = .ok (.invokevirtual 81, 3) := by decide +kernel
theorem dL_areNumbers_139 : decode cL_areNumbers 139 = .ok (.lstore 9, 2) := by decide +kernel
theorem dL_areNumbers_141 : decode cL_areNumbers 141 = .ok (.aload_n 0, 1) := by decide +kernel
theorem dL_areNumbers_142 : decode cL_areNumbers 142 = .ok (.invokevirtual 97, 3) := by decide +kernel
theorem dL_areNumbers_145 : decode cL_areNumbers 145 = .ok (.lstore 11, 2) := by decide +kernel
theorem dL_areNumbers_147 : decode cL_areNumbers 147 = .ok (.aload_n 0, 1) := by decide +kernel
theorem dL_areNumbers_148 : decode cL_areNumbers 148 = .ok (.invokevirtual 100, 3) := by decide +kernel
theorem dL_areNumbers_151 : decode cL_areNumbers 151 = .ok (.istore 13, 2) := by decide +kernel
theorem dL_areNumbers_153 : decode cL_areNumbers 153 = .ok (.aload_n 0, 1) := by decide +kernel
theorem dL_areNumbers_154 : decode cL_areNumbers 154 = .ok (.invokevirtual 103, 3) := by decide +kernel
theorem dL_areNumbers_157 : decode cL_areNumbers 157 = .ok (.istore 14, 2) := by decide +kernel
theorem dL_areNumbers_159 : decode cL_areNumbers 159 = .ok (.aload_n 0, 1) := by decide +kernel
theorem dL_areNumbers_160 : decode cL_areNumbers 160 = .ok (.invokevirtual 87, 3) := by decide +kernel
theorem dL_areNumbers_163 : decode cL_areNumbers 163 = .ok (.istore 15, 2) := by decide +kernel
theorem dL_areNumbers_165 : decode cL_areNumbers 165 = .ok (.aload_n 0, 1) := by decide +kernel
theorem dL_areNumbers_166 : decode cL_areNumbers 166 = .ok (.invokevirtual 60, 3) := by decide +kernel
theorem dL_areNumbers_169 : decode cL_areNumbers 169 = .ok (.iload 4, 2) := by decide +kernel
theorem dL_areNumbers_171 : decode cL_areNumbers 171 = .ok (.if_icmp .ne 180, 3) := by decide +kernel
theorem dL_areNumbers_174 : decode cL_areNumbers 174 = .ok (.aload_n 0, 1) := by decide +kernel
theorem dL_areNumbers_175 : decode cL_areNumbers 175 = .ok (.invokevirtual 90, 3) := by decide +kernel
theorem dL_areNumbers_178 : decode cL_areNumbers 178 = .ok (.lload 5, 2) := by decide +kernel
theorem dL_areNumbers_180 : decode cL_areNumbers 180 = .ok (.lcmp, 1) := by decide +kernel
theorem dL_areNumbers_181 : decode cL_areNumbers 181 = .ok (.ifCond .ne 170, 3) := by decide +kernel
theorem dL_areNumbers_184 : decode cL_areNumbers 184 = .ok (.aload_n 0, 1) := by decide +kernel
theorem dL_areNumbers_185 : decode cL_areNumbers 185 = .ok (.invokevirtual 106, 3) := by decide +kernel
theorem dL_areNumbers_188 : decode cL_areNumbers 188 = .ok (.lload 9, 2) := by decide +kernel
theorem dL_areNumbers_190 : decode cL_areNumbers 190 = .ok (.lcmp, 1) := by decide +kernel
theorem dL_areNumbers_191 : decode cL_areNumbers 191 = .ok (.ifCond .ne 160, 3) := by decide +kernel
theorem dL_areNumbers_194 : decode cL_areNumbers 194 = .ok (.aload_n 0, 1) := by decide +kernel
theorem dL_areNumbers_195 : decode cL_areNumbers 195 = .ok (.invokevirtual 109, 3) := by decide +kernel
theorem dL_areNumbers_198 : decode cL_areNumbers 198 = .ok (.aload_n 0, 1) := by decide +kernel
theorem dL_areNumbers_199 : decode cL_areNumbers 199 = .ok (.aload_n 1, 1) := by decide +kernel
theorem dL_areNumbers_200 : decode cL_areNumbers 200 = .ok (.iconst 0, 1) := by decide +kernel
theorem dL_areNumbers_201 : decode cL_areNumbers 201 = .ok (.invokestatic 112, 3) := by decide +kernel
theorem dL_areNumbers_204 : decode cL_areNumbers 204 = .ok (.aload_n 0, 1) := by decide +kernel
theorem dL_areNumbers_205 : decode cL_areNumbers 205 = .ok (.aload_n 1, 1) := by decide +kernel
theorem dL_areNumbers_206 : decode cL_areNumbers 206 = .ok (.iconst 1, 1) := by decide +kernel
theorem dL_areNumbers_207 : decode cL_areNumbers 207 = .ok (.invokestatic 112, 3) := by decide +kernel
theorem dL_areNumbers_210 : decode cL_areNumbers 210 = .ok (.if_icmp .ge 12, 3) := by decide +kernel
theorem dL_areNumbers_213 : decode cL_areNumbers 213 = .ok (.aload_n 0, 1) := by decide +kernel
theorem dL_areNumbers_214 : decode cL_areNumbers 214 = .ok (.aload_n 1, 1) := by decide +kernel
theorem dL_areNumbers_215 : decode cL_areNumbers 215 = .ok (.iconst 0, 1) := by decide +kernel
theorem dL_areNumbers_216 : decode cL_areNumbers 216 = .ok (.invokestatic 112, 3) := by decide +kernel
theorem dL_areNumbers_219 : decode cL_areNumbers 219 = .ok (.goto 9, 3) := by decide +kernel
theorem dL_areNumbers_222 : decode cL_areNumbers 222 = .ok (.aload_n 0, 1) := by decide +kernel
theorem dL_areNumbers_223 : decode cL_areNumbers 223 = .ok (.aload_n 1, 1) := by decide +kernel
theorem dL_areNumbers_224 : decode cL_areNumbers 224 = .ok (.iconst 1, 1) := by decide +kernel
theorem dL_areNumbers_225 : decode cL_areNumbers 225 = .ok (.invokestatic 112, 3) := by decide +kernel
theorem dL_areNumbers_228 : decode cL_areNumbers 228 = .ok (.if_icmp .ne 123, 3) := by decide +kernel
theorem dL_areNumbers_231 : decode cL_areNumbers 231 = .ok (.aload_n 0, 1) := by decide +kernel
theorem dL_areNumbers_232 : decode cL_areNumbers 232 = .ok (.iconst 0, 1) := by decide +kernel
theorem dL_areNumbers_233 : decode cL_areNumbers 233 = .ok (.invokevirtual 35, 3) := by decide +kernel
theorem dL_areNumbers_236 : decode cL_areNumbers 236 = .ok (.iconst 1, 1) := by decide +kernel
theorem dL_areNumbers_237 : decode cL_areNumbers 237 = .ok (.if_icmp .lt 114, 3) := by decide +kernel
theorem dL_areNumbers_240 : decode cL_areNumbers 240 = .ok (.aload_n 0, 1) := by decide +kernel
theorem dL_areNumbers_241 : decode cL_areNumbers 241 = .ok (.iconst 1, 1) := by decide +kernel
theorem dL_areNumbers_242 : decode cL_areNumbers 242 = .ok (.invokevirtual 35, 3) := by decide +kernel
theorem dL_areNumbers_245 : decode cL_areNumbers 245 = .ok (.iconst 1, 1) := by decide +kernel
theorem dL_areNumbers_246 : decode cL_areNumbers 246 = .ok (.if_icmp .lt 105, 3) := by decide +kernel
theorem dL_areNumbers_249 : decode cL_areNumbers 249 = .ok (.aload_n 0, 1) := by decide +kernel
theorem dL_areNumbers_250 : decode cL_areNumbers 250 = .ok (.invokevirtual 76, 3) := by decide +kernel
theorem dL_areNumbers_253 : decode cL_areNumbers 253 = .ok (.ifCond .lt 98, 3) := by decide +kernel
theorem dL_areNumbers_256 : decode cL_areNumbers 256 = .ok (.aload_n 0, 1) := by decide +kernel
theorem dL_areNumbers_257 : decode cL_areNumbers 257 = .ok (.invokevirtual 76, 3) := by decide +kernel
theorem dL_areNumbers_260 : decode cL_areNumbers 260 = .ok (.aload_n 0, 1) := by decide +kernel
theorem dL_areNumbers_261 : decode cL_areNumbers 261 = .ok (.invokevirtual 51, 3) := by decide +kernel
theorem dL_areNumbers_264 : decode cL_areNumbers 264 = .ok (.if_icmp .gt 87, 3) := by decide +kernel
theorem dL_areNumbers_267 : decode cL_areNumbers 267 = .ok (.aload_n 0, 1) := by decide +kernel
theorem dL_areNumbers_268 : decode cL_areNumbers 268 = .ok (.invokevirtual 51, 3) := by decide +kernel
theorem dL_areNumbers_271 : decode cL_areNumbers 271 = .ok (.aload_n 1, 1) := by decide +kernel
theorem dL_areNumbers_272 : decode cL_areNumbers 272 = .ok (.bipush 8, 2) := by decide +kernel
theorem dL_areNumbers_274 : decode cL_areNumbers 274 = .ok (.iaload, 1) := by decide +kernel
theorem dL_areNumbers_275 : decode cL_areNumbers 275 = .ok (.if_icmp .gt 76, 3) := by decide +kernel
theorem dL_areNumbers_278 : decode cL_areNumbers 278 = .ok (.aload_n 0, 1) := by decide +kernel
theorem dL_areNumbers_279 : decode cL_areNumbers 279 = .ok (.invokevirtual 51, 3) := by decide +kernel
theorem dL_areNumbers_282 : decode cL_areNumbers 282 = .ok (.aload_n 1, 1) := by decide +kernel
theorem dL_areNumbers_283 : decode cL_areNumbers 283 = .ok (.bipush 8, 2) := by decide +kernel
theorem dL_areNumbers_285 : decode cL_areNumbers 285 = .ok (.iaload, 1) := by decide +kernel
theorem dL_areNumbers_286 : decode cL_areNumbers 286 = .ok (.if_icmp .lt 10, 3) := by decide +kernel
theorem dL_areNumbers_289 : decode cL_areNumbers 289 = .ok (.aload_n 0, 1) := by decide +kernel
theorem dL_areNumbers_290 : decode cL_areNumbers 290 = .ok (.invokevirtual 63, 3) := by decide +kernel
theorem dL_areNumbers_293 : decode cL_areNumbers 293 = .ok (.ifCond .eq 58, 3) := by decide +kernel
theorem dL_areNumbers_296 : decode cL_areNumbers 296 = .ok (.lload 11, 2) := by decide +kernel
theorem dL_areNumbers_298 : decode cL_areNumbers 298 = .ok (.lconst 0, 1) := by decide +kernel
theorem dL_areNumbers_299 : decode cL_areNumbers 299 = .ok (.lcmp, 1) := by decide +kernel
theorem dL_areNumbers_300 : decode cL_areNumbers 300 = .ok (.ifCond .lt 51, 3) := by decide +kernel
theorem dL_areNumbers_303 : decode cL_areNumbers 303 = .ok (.lload 11, 2) := by decide +kernel
theorem dL_areNumbers_305 : decode cL_areNumbers 305 = .ok (.lload 5, 2) := by decide +kernel
theorem dL_areNumbers_307 : decode cL_areNumbers 307 = .ok (.lcmp, 1) := by decide +kernel
theorem dL_areNumbers_308 : decode cL_areNumbers 308 = .ok (.ifCond .gt 43, 3) := by decide +kernel
theorem dL_areNumbers_311 : decode cL_areNumbers 311 = .ok (.iload 13, 2) := by decide +kernel
theorem dL_areNumbers_313 : decode cL_areNumbers 313 = .ok (.iload 14, 2) := by decide +kernel
theorem dL_areNumbers_315 : decode cL_areNumbers 315 = .ok (.if_icmp .gt 36, 3) := by decide +kernel
theorem dL_areNumbers_318 : decode cL_areNumbers 318 = .ok (.iload 13, 2) := by decide +kernel
theorem dL_areNumbers_320 : decode cL_areNumbers 320 = .ok (.ifCond .lt 31, 3) := by decide +kernel
theorem dL_areNumbers_323 : decode cL_areNumbers 323 = .ok (.iload 13, 2) := by decide +kernel
theorem dL_areNumbers_325 : decode cL_areNumbers 325 = .ok (.i2l, 1) := by decide +kernel
theorem dL_areNumbers_326 : decode cL_areNumbers 326 = .ok (.lload 5, 2) := by decide +kernel
theorem dL_areNumbers_328 : decode cL_areNumbers 328 = .ok (.lmul, 1) := by decide +kernel
theorem dL_areNumbers_329 : decode cL_areNumbers 329 = .ok (.lload 9, 2) := by decide +kernel
theorem dL_areNumbers_331 : decode cL_areNumbers 331 = .ok (.lcmp, 1) := by decide +kernel
theorem dL_areNumbers_332 : decode cL_areNumbers 332 = .ok (.ifCond .gt 19, 3) := by decide +kernel
theorem dL_areNumbers_335 : decode cL_areNumbers 335 = .ok (.lload 9, 2) := by decide +kernel
theorem dL_areNumbers_337 : decode cL_areNumbers 337 = .ok (.iload 14, 2) := by decide +kernel
theorem dL_areNumbers_339 : decode cL_areNumbers 339 = .ok (.i2l, 1) := by decide +kernel
theorem dL_areNumbers_340 : decode cL_areNumbers 340 = .ok (.lload 5, 2) := by decide +kernel
theorem dL_areNumbers_342 : decode cL_areNumbers 342 = .ok (.lmul, 1) := by decide +kernel
theorem dL_areNumbers_343 : decode cL_areNumbers 343 = .ok (.lcmp, 1) := by decide +kernel
theorem dL_areNumbers_344 : decode cL_areNumbers 344 = .ok (.ifCond .gt 7, 3) := by decide +kernel
theorem dL_areNumbers_347 : decode cL_areNumbers 347 = .ok (.iconst 1, 1) := by decide +kernel
theorem dL_areNumbers_348 : decode cL_areNumbers 348 = .ok (.goto 4, 3) := by decide +kernel
theorem dL_areNumbers_351 : decode cL_areNumbers 351 = .ok (.iconst 0, 1) := by decide +kernel
theorem dL_areNumbers_352 : decode cL_areNumbers 352 = .ok (.istore 16, 2) := by decide +kernel
theorem dL_areNumbers_354 : decode cL_areNumbers 354 = .ok (.aload_n 0, 1) := by decide +kernel
theorem dL_areNumbers_355 : decode cL_areNumbers 355 = .ok (.aload_n 1, 1) := by decide +kernel
theorem dL_areNumbers_356 : decode cL_areNumbers 356 = .ok (.bipush 8, 2) := by decide +kernel
theorem dL_areNumbers_358 : decode cL_areNumbers 358 = .ok (.iaload, 1) := by decide +kernel
theorem dL_areNumbers_359 : decode cL_areNumbers 359 = .ok (.invokevirtual 39, 3) := by decide +kernel
theorem dL_areNumbers_362 : decode cL_areNumbers 362 = .ok (.lstore 17, 2) := by decide +kernel
theorem dL_areNumbers_364 : decode cL_areNumbers 364 = .ok (.iconst 1, 1) := by decide +kernel
theorem dL_areNumbers_365 : decode cL_areNumbers 365 = .ok (.istore 19, 2) := by decide +kernel
theorem dL_areNumbers_367 : decode cL_areNumbers 367 = .ok (.iload 19, 2) := by decide +kernel
theorem dL_areNumbers_369 : decode cL_areNumbers 369 = .ok (.aload_n 1, 1) := by decide +kernel
theorem dL_areNumbers_370 : decode cL_areNumbers 370 = .ok (.bipush 8, 2) := by decide +kernel
theorem dL_areNumbers_372 : decode cL_areNumbers 372 = .ok (.iaload, 1) := by decide +kernel
theorem dL_areNumbers_373 : decode cL_areNumbers 373 = .ok (.if_icmp .gt 70, 3) := by decide +kernel
theorem dL_areNumbers_376 : decode cL_areNumbers 376 = .ok (.iload 16, 2) := by decide +kernel
theorem dL_areNumbers_378 : decode cL_areNumbers 378 = .ok (.ifCond .eq 65, 3) := by decide +kernel
theorem dL_areNumbers_381 : decode cL_areNumbers 381 = .ok (.iload_n 3, 1) := by decide +kernel
theorem dL_areNumbers_382 : decode cL_areNumbers 382 = .ok (.ifCond .eq 61, 3) := by decide +kernel
theorem dL_areNumbers_385 : decode cL_areNumbers 385 = .ok (.aload_n 0, 1) := by decide +kernel
theorem dL_areNumbers_386 : decode cL_areNumbers 386 = .ok (.iload 19, 2) := by decide +kernel
theorem dL_areNumbers_388 : decode cL_areNumbers 388 = .ok (.invokevirtual 39, 3) := by decide +kernel
theorem dL_areNumbers_391 : decode cL_areNumbers 391 = .ok (.lstore 20, 2) := by decide +kernel
theorem dL_areNumbers_393 : decode cL_areNumbers 393 = .ok (.lload 7, 2) := by decide +kernel
theorem dL_areNumbers_395 : decode cL_areNumbers 395 = .ok (.lload 20, 2) := by decide +kernel
theorem dL_areNumbers_397 : decode cL_areNumbers 397 = .ok (.ladd, 1) := by decide +kernel
theorem dL_areNumbers_398 : decode cL_areNumbers 398 = .ok (.lstore 7, 2) := by decide +kernel
theorem dL_areNumbers_400 : decode cL_areNumbers 400 = .ok (.lload 20, 2) := by decide +kernel
theorem dL_areNumbers_402 : decode cL_areNumbers 402 = .ok (.lconst 0, 1) := by decide +kernel
theorem dL_areNumbers_403 : decode cL_areNumbers 403 = .ok (.lcmp, 1) := by decide +kernel
theorem dL_areNumbers_404 : decode cL_areNumbers 404 = .ok (.ifCond .lt 30, 3) := by decide +kernel
theorem dL_areNumbers_407 : decode cL_areNumbers 407 = .ok (.iload 19, 2) := by decide +kernel
theorem dL_areNumbers_409 : decode cL_areNumbers 409 = .ok (.aload_n 0, 1) := by decide +kernel
theorem dL_areNumbers_410 : decode cL_areNumbers 410 = .ok (.invokevirtual 51, 3) := by decide +kernel
theorem dL_areNumbers_413 : decode cL_areNumbers 413 = .ok (.if_icmp .le 10, 3) := by decide +kernel
theorem dL_areNumbers_416 : decode cL_areNumbers 416 = .ok (.aload_n 0, 1) := by decide +kernel
theorem dL_areNumbers_417 : decode cL_areNumbers 417 = .ok (.invokevirtual 63, 3) := by decide +kernel
theorem dL_areNumbers_420 : decode cL_areNumbers 420 = .ok (.ifCond .eq 10, 3) := by decide +kernel
theorem dL_areNumbers_423 : decode cL_areNumbers 423 = .ok (.lload 20, 2) := by decide +kernel
theorem dL_areNumbers_425 : decode cL_areNumbers 425 = .ok (.lconst 0, 1) := by decide +kernel
theorem dL_areNumbers_426 : decode cL_areNumbers 426 = .ok (.lcmp, 1) := by decide +kernel
theorem dL_areNumbers_427 : decode cL_areNumbers 427 = .ok (.ifCond .ne 7, 3) := by decide +kernel
theorem dL_areNumbers_430 : decode cL_areNumbers 430 = .ok (.iconst 1, 1) := by decide +kernel
theorem dL_areNumbers_431 : decode cL_areNumbers 431 = .ok (.goto 4, 3) := by decide +kernel
theorem dL_areNumbers_434 : decode cL_areNumbers 434 = .ok (.iconst 0, 1) := by decide +kernel
theorem dL_areNumbers_435 : decode cL_areNumbers 435 = .ok (.istore 16, 2) := by decide +kernel
theorem dL_areNumbers_437 : decode cL_areNumbers 437 = .ok (.iinc 19 1, 3) := by decide +kernel
theorem dL_areNumbers_440 : decode cL_areNumbers 440 = .ok (.goto (-73), 3) := by decide +kernel
theorem dL_areNumbers_443 : decode cL_areNumbers 443 = .ok (.iconst 1, 1) := by decide +kernel
theorem dL_areNumbers_444 : decode cL_areNumbers 444 = .ok (.istore 19, 2) := by decide +kernel
theorem dL_areNumbers_446 : decode cL_areNumbers 446 = .ok (.aload_n 0, 1) := by decide +kernel
theorem dL_areNumbers_447 : decode cL_areNumbers 447 = .ok (.invokevirtual 51, 3) := by decide +kernel
theorem dL_areNumbers_450 : decode cL_areNumbers 450 = .ok (.istore 20, 2) := by decide +kernel
theorem dL_areNumbers_452 : decode cL_areNumbers 452 = .ok (.iload 20, 2) := by decide +kernel
theorem dL_areNumbers_454 : decode cL_areNumbers 454 = .ok (.aload_n 1, 1) := by decide +kernel
theorem dL_areNumbers_455 : decode cL_areNumbers 455 = .ok (.bipush 8, 2) := by decide +kernel
theorem dL_areNumbers_457 : decode cL_areNumbers 457 = .ok (.iaload, 1) := by decide +kernel
theorem dL_areNumbers_458 : decode cL_areNumbers 458 = .ok (.if_icmp .ge 15, 3) := by decide +kernel
theorem dL_areNumbers_461 : decode cL_areNumbers 461 = .ok (.iload 19, 2) := by decide +kernel
theorem dL_areNumbers_463 : decode cL_areNumbers 463 = .ok (.iconst 2, 1) := by decide +kernel
theorem dL_areNumbers_464 : decode cL_areNumbers 464 = .ok (.imul, 1) := by decide +kernel
theorem dL_areNumbers_465 : decode cL_areNumbers 465 = .ok (.istore 19, 2) := by decide +kernel
theorem dL_areNumbers_467 : decode cL_areNumbers 467 = .ok (.iinc 20 1, 3) := by decide +kernel
theorem dL_areNumbers_470 : decode cL_areNumbers 470 = .ok (.goto (-18), 3) := by decide +kernel
theorem dL_areNumbers_473 : decode cL_areNumbers 473 = .ok (.iload 16, 2) := by decide +kernel
theorem dL_areNumbers_475 : decode cL_areNumbers 475 = .ok (.ifCond .eq 158, 3) := by decide +kernel
theorem dL_areNumbers_478 : decode cL_areNumbers 478 = .ok (.iload_n 3, 1) := by decide +kernel
theorem dL_areNumbers_479 : decode cL_areNumbers 479 = .ok (.ifCond .eq 22, 3) := by decide +kernel
theorem dL_areNumbers_482 : decode cL_areNumbers 482 = .ok (.lload 7, 2) := by decide +kernel
theorem dL_areNumbers_484 : decode cL_areNumbers 484 = .ok (.aload_n 0, 1) := by decide +kernel
theorem dL_areNumbers_485 : decode cL_areNumbers 485 = .ok (.invokevirtual 63, 3) := by decide +kernel
theorem dL_areNumbers_488 : decode cL_areNumbers 488 = .ok (.ifCond .eq 7, 3) := by decide +kernel
theorem dL_areNumbers_491 : decode cL_areNumbers 491 = .ok (.lconst 0, 1) := by decide +kernel
theorem dL_areNumbers_492 : decode cL_areNumbers 492 = .ok (.goto 5, 3) := by decide +kernel
theorem dL_areNumbers_495 : decode cL_areNumbers 495 = .ok (.lload 5, 2) := by decide +kernel
theorem dL_areNumbers_497 : decode cL_areNumbers 497 = .ok (.lcmp, 1) := by decide +kernel
theorem dL_areNumbers_498 : decode cL_areNumbers 498 = .ok (.ifCond .ne 135, 3) := by decide +kernel
theorem dL_areNumbers_501 : decode cL_areNumbers 501 = .ok (.aload_n 0, 1) := by decide +kernel
theorem dL_areNumbers_502 : decode cL_areNumbers 502 = .ok (.invokevirtual 63, 3) := by decide +kernel
theorem dL_areNumbers_505 : decode cL_areNumbers 505 = .ok (.ifCond .eq 44, 3) := by decide +kernel
theorem dL_areNumbers_508 : decode cL_areNumbers 508 = .ok (.lload 9, 2) := by decide +kernel
theorem dL_areNumbers_510 : decode cL_areNumbers 510 = .ok (.lconst 0, 1) := by decide +kernel
theorem dL_areNumbers_511 : decode cL_areNumbers 511 = .ok (.lcmp, 1) := by decide +kernel
theorem dL_areNumbers_512 : decode cL_areNumbers 512 = .ok (.ifCond .ne 121, 3) := by decide +kernel
theorem dL_areNumbers_515 : decode cL_areNumbers 515 = .ok (.iload 15, 2) := by decide +kernel
theorem dL_areNumbers_517 : decode cL_areNumbers 517 = .ok (.iconst 1, 1) := by decide +kernel
theorem dL_areNumbers_518 : decode cL_areNumbers 518 = .ok (.if_icmp .ne 115, 3) := by decide +kernel
theorem dL_areNumbers_521 : decode cL_areNumbers 521 = .ok (.lload 17, 2) := by decide +kernel
theorem dL_areNumbers_523 : decode cL_areNumbers 523 = .ok (.lconst 0, 1) := by decide +kernel
theorem dL_areNumbers_524 : decode cL_areNumbers 524 = .ok (.lcmp, 1) := by decide +kernel
theorem dL_areNumbers_525 : decode cL_areNumbers 525 = .ok (.ifCond .ne 108, 3) := by decide +kernel
theorem dL_areNumbers_528 : decode cL_areNumbers 528 = .ok (.lload 11, 2) := by decide +kernel
theorem dL_areNumbers_530 : decode cL_areNumbers 530 = .ok (.aload_n 0, 1) := by decide +kernel
theorem dL_areNumbers_531 : decode cL_areNumbers 531 = .ok (.invokevirtual 69, 3) := by decide +kernel
theorem dL_areNumbers_534 : decode cL_areNumbers 534 = .ok (.ifCond .eq 7, 3) := by decide +kernel
theorem dL_areNumbers_537 : decode cL_areNumbers 537 = .ok (.lconst 1, 1) := by decide +kernel
theorem dL_areNumbers_538 : decode cL_areNumbers 538 = .ok (.goto 4, 3) := by decide +kernel
theorem dL_areNumbers_541 : decode cL_areNumbers 541 = .ok (.lconst 0, 1) := by decide +kernel
theorem dL_areNumbers_542 : decode cL_areNumbers 542 = .ok (.lcmp, 1) := by decide +kernel
theorem dL_areNumbers_543 : decode cL_areNumbers 543 = .ok (.ifCond .ne 90, 3) := by decide +kernel
theorem dL_areNumbers_546 : decode cL_areNumbers 546 = .ok (.goto 40, 3) := by decide +kernel
theorem dL_areNumbers_549 : decode cL_areNumbers 549 = .ok (.iload 15, 2) := by decide +kernel
theorem dL_areNumbers_551 : decode cL_areNumbers 551 = .ok (.ifCond .lt 82, 3) := by decide +kernel
theorem dL_areNumbers_554 : decode cL_areNumbers 554 = .ok (.iload 15, 2) := by decide +kernel
theorem dL_areNumbers_556 : decode cL_areNumbers 556 = .ok (.iload 19, 2) := by decide +kernel
theorem dL_areNumbers_558 : decode cL_areNumbers 558 = .ok (.if_icmp .gt 75, 3) := by decide +kernel
theorem dL_areNumbers_561 : decode cL_areNumbers 561 = .ok (.iload 15, 2) := by decide +kernel
theorem dL_areNumbers_563 : decode cL_areNumbers 563 = .ok (.ifCond .le 7, 3) := by decide +kernel
theorem dL_areNumbers_566 : decode cL_areNumbers 566 = .ok (.iconst 1, 1) := by decide +kernel
theorem dL_areNumbers_567 : decode cL_areNumbers 567 = .ok (.goto 4, 3) := by decide +kernel
theorem dL_areNumbers_570 : decode cL_areNumbers 570 = .ok (.iconst 0, 1) := by decide +kernel
theorem dL_areNumbers_571 : decode cL_areNumbers 571 = .ok (.lload 17, 2) := by decide +kernel
theorem dL_areNumbers_573 : decode cL_areNumbers 573 = .ok (.lconst 0, 1) := by decide +kernel
theorem dL_areNumbers_574 : decode cL_areNumbers 574 = .ok (.lcmp, 1) := by decide +kernel
theorem dL_areNumbers_575 : decode cL_areNumbers 575 = .ok (.ifCond .le 7, 3) := by decide +kernel
theorem dL_areNumbers_578 : decode cL_areNumbers 578 = .ok (.iconst 1, 1) := by decide +kernel
theorem dL_areNumbers_579 : decode cL_areNumbers 579 = .ok (.goto 4, 3) := by decide +kernel
theorem dL_areNumbers_582 : decode cL_areNumbers 582 = .ok (.iconst 0, 1) := by decide +kernel
theorem dL_areNumbers_583 : decode cL_areNumbers 583 = .ok (.if_icmp .ne 50, 3) := by decide +kernel
theorem dL_areNumbers_586 : decode cL_areNumbers 586 = .ok (.aload_n 0, 1) := by decide +kernel
theorem dL_areNumbers_587 : decode cL_areNumbers 587 = .ok (.invokevirtual 51, 3) := by decide +kernel
theorem dL_areNumbers_590 : decode cL_areNumbers 590 = .ok (.ifCond .gt 39, 3) := by decide +kernel
theorem dL_areNumbers_593 : decode cL_areNumbers 593 = .ok (.aload_n 0, 1) := by decide +kernel
theorem dL_areNumbers_594 : decode cL_areNumbers 594 = .ok (.iconst 0, 1) := by decide +kernel
theorem dL_areNumbers_595 : decode cL_areNumbers 595 = .ok (.invokevirtual 35, 3) := by decide +kernel
theorem dL_areNumbers_598 : decode cL_areNumbers 598 = .ok (.aload_n 1, 1) := by decide +kernel
theorem dL_areNumbers_599 : decode cL_areNumbers 599 = .ok (.iconst 0, 1) := by decide +kernel
theorem dL_areNumbers_600 : decode cL_areNumbers 600 = .ok (.iaload, 1) := by decide +kernel
theorem dL_areNumbers_601 : decode cL_areNumbers 601 = .ok (.if_icmp .ne 32, 3) := by decide +kernel
theorem dL_areNumbers_604 : decode cL_areNumbers 604 = .ok (.aload_n 0, 1) := by decide +kernel
theorem dL_areNumbers_605 : decode cL_areNumbers 605 = .ok (.iconst 1, 1) := by decide +kernel
theorem dL_areNumbers_606 : decode cL_areNumbers 606 = .ok (.invokevirtual 35, 3) := by decide +kernel
theorem dL_areNumbers_609 : decode cL_areNumbers 609 = .ok (.aload_n 1, 1) := by decide +kernel
theorem dL_areNumbers_610 : decode cL_areNumbers 610 = .ok (.iconst 3, 1) := by decide +kernel
theorem dL_areNumbers_611 : decode cL_areNumbers 611 = .ok (.iaload, 1) := by decide +kernel
theorem dL_areNumbers_612 : decode cL_areNumbers 612 = .ok (.if_icmp .ne 21, 3) := by decide +kernel
theorem dL_areNumbers_615 : decode cL_areNumbers 615 = .ok (.aload_n 0, 1) := by decide +kernel
theorem dL_areNumbers_616 : decode cL_areNumbers 616 = .ok (.invokevirtual 69, 3) := by decide +kernel
theorem dL_areNumbers_619 : decode cL_areNumbers 619 = .ok (.ifCond .ne 14, 3) := by decide +kernel
theorem dL_areNumbers_622 : decode cL_areNumbers 622 = .ok (.aload_n 0, 1) := by decide +kernel
theorem dL_areNumbers_623 : decode cL_areNumbers 623 = .ok (.invokevirtual 76, 3) := by decide +kernel
theorem dL_areNumbers_626 : decode cL_areNumbers 626 = .ok (.ifCond .ne 7, 3) := by decide +kernel
theorem dL_areNumbers_629 : decode cL_areNumbers 629 = .ok (.iconst 1, 1) := by decide +kernel
theorem dL_areNumbers_630 : decode cL_areNumbers 630 = .ok (.goto 4, 3) := by decide +kernel
theorem dL_areNumbers_633 : decode cL_areNumbers 633 = .ok (.iconst 0, 1) := by decide +kernel
theorem dL_areNumbers_634 : decode cL_areNumbers 634 = .ok (.ireturn, 1) := by decide +kernel
set_option maxRecDepth 20000 in
theorem ggL_isTold_X5_told : GoodIn wsL_isTold wsX5_told := goodIn_r _ [6, 7, 8, 231, 232, 233, 234, 235, 236, 237, 238, 239, 240, 241, 242, 243] rfl (by decide +kernel)
set_option maxRecDepth 20000 in
theorem gL_isTold_X5_told : GoodIn wsL_isTold (wsV RL 51 RX5 yX5_told wsX5_told) := goodIn_app (goodIn_of _ (by decide +kernel)) ggL_isTold_X5_told
set_option maxRecDepth 20000 in
theorem ggL_isTold_X5_isOver : GoodIn wsL_isTold wsX5_isOver := goodIn_r _ [12, 7, 13, 231, 232, 233, 234, 235, 236, 237, 238, 239, 240, 241, 242, 243] rfl (by decide +kernel)
set_option maxRecDepth 20000 in
theorem gL_isTold_X5_isOver : GoodIn wsL_isTold (wsV RL 63 RX5 yX5_isOver wsX5_isOver) := goodIn_app (goodIn_of _ (by decide +kernel)) ggL_isTold_X5_isOver
set_option maxRecDepth 20000 in
theorem ggL_isTold_L_act : GoodIn wsL_isTold wsL_act := goodIn_ca (goodIn_ca (goodIn_ca (goodIn_r _ [17, 18, 19, 20, 21, 22, 1, 23, 24, 25, 5, 26, 27, 28, 7, 13, 8, 29, 30, 31, 32, 33, 34, 35, 36, 37, 38, 39, 40, 41, 42, 43, 44, 45, 46, 47, 48, 49, 50, 51, 52, 53, 54, 55, 56, 57, 58, 59, 60, 61, 62, 63, 64, 65, 66, 67, 68, 69, 70, 71, 72, 73, 74, 75, 76, 77, 78, 79, 80, 81, 82, 83, 84, 85, 86, 87, 88, 89, 90, 91, 92, 93, 94, 95, 96, 97, 98, 99, 100, 101, 102, 103, 104, 105, 106, 107, 108, 109, 110, 111, 112, 113, 114, 115, 116, 117, 118, 119, 120, 121, 122, 123, 124, 125, 126, 127, 128, 129, 130, 131, 132, 133, 134, 135, 136, 137, 138, 139, 140, 141, 142, 143, 144, 145, 146, 147, 148, 149, 150, 151, 152, 153, 154, 155, 156, 157, 158, 159, 160, 161, 162, 163, 164, 165, 166, 167, 168, 169, 170, 171, 172, 173, 174, 175, 176, 177, 178, 179, 180, 181, 182, 183, 184, 185, 186, 187, 188, 189, 190, 191, 192, 193, 194, 195, 196, 197, 198, 199, 200, 201, 202, 203, 204, 205, 206, 207, 208, 209, 210, 231, 232, 233, 234, 235, 236, 237, 238, 239, 240, 241, 242, 243, 244, 245, 246, 247, 248, 249, 250, 251, 252, 253, 254, 255, 256, 257, 258, 259, 260, 261, 262, 263, 264, 265, 266, 267, 268, 269, 270, 271, 272, 273, 274] rfl (by decide +kernel)) (goodIn_sub (fun _ h => List.mem_cons_of_mem _ (List.mem_append_left _ (List.mem_append_left _ (List.mem_append_right _ h)))) (by decide +kernel))) (goodIn_sub (fun _ h => List.mem_cons_of_mem _ (List.mem_append_left _ (List.mem_append_right _ h))) (by decide +kernel))) (goodIn_sub (fun _ h => List.mem_cons_of_mem _ (List.mem_append_right _ h)) (by decide +kernel))
set_option maxRecDepth 20000 in
theorem gL_isTold_L_act : GoodIn wsL_isTold (va_wsS RL 118 yL_act wsL_act) := goodIn_app (goodIn_of _ (by decide +kernel)) ggL_isTold_L_act
set_option maxRecDepth 20000 in
theorem ggL_isTold_X5_price : GoodIn wsL_isTold wsX5_price := goodIn_ca (goodIn_r _ [101, 102, 103, 7, 104, 105, 106, 107, 5, 108, 231, 232, 233, 234, 235, 236, 237, 238, 239, 240, 241, 242, 243] rfl (by decide +kernel)) (goodIn_sub (fun _ h => List.mem_cons_of_mem _ (List.mem_append_left _ (List.mem_append_right _ h))) (by decide +kernel))
set_option maxRecDepth 20000 in
theorem gL_isTold_X5_price : GoodIn wsL_isTold (wsV RL 35 RX5 yX5_price wsX5_price) := goodIn_app (goodIn_of _ (by decide +kernel)) ggL_isTold_X5_price
set_option maxRecDepth 20000 in
theorem ggL_isTold_X5_missed : GoodIn wsL_isTold wsX5_missed := goodIn_r _ [214, 7, 215, 231, 232, 233, 234, 235, 236, 237, 238, 239, 240, 241, 242, 243] rfl (by decide +kernel)
set_option maxRecDepth 20000 in
theorem gL_isTold_X5_missed : GoodIn wsL_isTold (wsV RL 76 RX5 yX5_missed wsX5_missed) := goodIn_app (goodIn_of _ (by decide +kernel)) ggL_isTold_X5_missed
set_option maxRecDepth 20000 in
theorem ggL_isTold_X5_paid : GoodIn wsL_isTold wsX5_paid := goodIn_r _ [219, 7, 220, 231, 232, 233, 234, 235, 236, 237, 238, 239, 240, 241, 242, 243] rfl (by decide +kernel)
set_option maxRecDepth 20000 in
theorem gL_isTold_X5_paid : GoodIn wsL_isTold (wsV RL 60 RX5 yX5_paid wsX5_paid) := goodIn_app (goodIn_of _ (by decide +kernel)) ggL_isTold_X5_paid
set_option maxRecDepth 20000 in
theorem ggL_isTold_X5_isKnocked : GoodIn wsL_isTold wsX5_isKnocked := goodIn_r _ [224, 7, 225, 231, 232, 233, 234, 235, 236, 237, 238, 239, 240, 241, 242, 243] rfl (by decide +kernel)
set_option maxRecDepth 20000 in
theorem gL_isTold_X5_isKnocked : GoodIn wsL_isTold (wsV RL 69 RX5 yX5_isKnocked wsX5_isKnocked) := goodIn_app (goodIn_of _ (by decide +kernel)) ggL_isTold_X5_isKnocked
set_option maxRecDepth 20000 in
theorem ggL_isTold_X5_worst : GoodIn wsL_isTold wsX5_worst := goodIn_r _ [229, 7, 30, 230, 63, 64, 35, 65, 38, 39, 40, 41, 66, 67, 60, 68, 69, 70, 71, 54, 72, 73, 231, 232, 233, 234, 235, 244, 245, 246, 247, 248, 249, 250, 251, 252, 253, 254, 236, 237, 238, 239, 240, 241, 242, 243, 255, 256, 257] rfl (by decide +kernel)
set_option maxRecDepth 20000 in
theorem gL_isTold_X5_worst : GoodIn wsL_isTold (wsV RL 109 RX5 yX5_worst wsX5_worst) := goodIn_app (goodIn_of _ (by decide +kernel)) ggL_isTold_X5_worst
theorem dL_isTold_0 : decode cL_isTold 0 = .ok (.aload_n 0, 1) := by decide +kernel
theorem dL_isTold_1 : decode cL_isTold 1 = .ok (.invokevirtual 51, 3) := by decide +kernel
theorem dL_isTold_4 : decode cL_isTold 4 = .ok (.istore 4, 2) := by decide +kernel
theorem dL_isTold_6 : decode cL_isTold 6 = .ok (.aload_n 0, 1) := by decide +kernel
theorem dL_isTold_7 : decode cL_isTold 7 = .ok (.invokevirtual 63, 3) := by decide +kernel
theorem dL_isTold_10 : decode cL_isTold 10 = .ok (.ifCond .eq 39, 3) := by decide +kernel
theorem dL_isTold_13 : decode cL_isTold 13 = .ok (.aload_n 0, 1) := by decide +kernel
theorem dL_isTold_14 : decode cL_isTold 14 = .ok (.iconst 0, 1) := by decide +kernel
theorem dL_isTold_15 : decode cL_isTold 15 = .ok (.iload_n 3, 1) := by decide +kernel
theorem dL_isTold_16 : decode cL_isTold 16 = .ok (.ifCond .eq 7, 3) := by decide +kernel
theorem dL_isTold_19 : decode cL_isTold 19 = .ok (.iconst 1, 1) := by decide +kernel
theorem dL_isTold_20 : decode cL_isTold 20 = .ok (.goto 4, 3) := by decide +kernel
theorem dL_isTold_23 : decode cL_isTold 23 = .ok (.iconst 0, 1) := by decide +kernel
theorem dL_isTold_24 : decode cL_isTold 24 = .ok (.invokestatic 118, 3) := by decide +kernel
theorem dL_isTold_27 : decode cL_isTold 27 = .ok (.ldc2_w 49, 3) := by decide +kernel
theorem dL_isTold_30 : decode cL_isTold 30 = .ok (.lcmp, 1) := by decide +kernel
theorem dL_isTold_31 : decode cL_isTold 31 = .ok (.ifCond .ne 16, 3) := by decide +kernel
theorem dL_isTold_34 : decode cL_isTold 34 = .ok (.aload_n 0, 1) := by decide +kernel
theorem dL_isTold_35 : decode cL_isTold 35 = .ok (.invokevirtual 51, 3) := by decide +kernel
theorem dL_isTold_38 : decode cL_isTold 38 = .ok (.iload 4, 2) := by decide +kernel
theorem dL_isTold_40 : decode cL_isTold 40 = .ok (.if_icmp .ne 7, 3) := by decide +kernel
theorem dL_isTold_43 : decode cL_isTold 43 = .ok (.iconst 1, 1) := by decide +kernel
theorem dL_isTold_44 : decode cL_isTold 44 = .ok (.goto 4, 3) := by decide +kernel
theorem dL_isTold_47 : decode cL_isTold 47 = .ok (.iconst 0, 1) := by decide +kernel
theorem dL_isTold_48 : decode cL_isTold 48 = .ok (.ireturn, 1) := by decide +kernel
theorem dL_isTold_49 : decode cL_isTold 49 = .ok (.aload_n 0, 1) := by decide +kernel
theorem dL_isTold_50 : decode cL_isTold 50 = .ok (.iconst 0, 1) := by decide +kernel
theorem dL_isTold_51 : decode cL_isTold 51 = .ok (.invokevirtual 35, 3) := by decide +kernel
theorem dL_isTold_54 : decode cL_isTold 54 = .ok (.istore 5, 2) := by decide +kernel
theorem dL_isTold_56 : decode cL_isTold 56 = .ok (.aload_n 0, 1) := by decide +kernel
theorem dL_isTold_57 : decode cL_isTold 57 = .ok (.iconst 1, 1) := by decide +kernel
theorem dL_isTold_58 : decode cL_isTold 58 = .ok (.invokevirtual 35, 3) := by decide +kernel
theorem dL_isTold_61 : decode cL_isTold 61 = .ok (.istore 6, 2) := by decide +kernel
theorem dL_isTold_63 : decode cL_isTold 63 = .ok (.aload_n 0, 1) := by decide +kernel
theorem dL_isTold_64 : decode cL_isTold 64 = .ok (.invokevirtual 76, 3) := by decide +kernel
theorem dL_isTold_67 : decode cL_isTold 67 = .ok (.istore 7, 2) := by decide +kernel
theorem dL_isTold_69 : decode cL_isTold 69 = .ok (.aload_n 0, 1) := by decide +kernel
theorem dL_isTold_70 : decode cL_isTold 70 = .ok (.invokevirtual 60, 3) := by decide +kernel
theorem dL_isTold_73 : decode cL_isTold 73 = .ok (.istore 8, 2) := by decide +kernel
theorem dL_isTold_75 : decode cL_isTold 75 = .ok (.aload_n 0, 1) := by decide +kernel
theorem dL_isTold_76 : decode cL_isTold 76 = .ok (.invokevirtual 69, 3) := by decide +kernel
theorem dL_isTold_79 : decode cL_isTold 79 = .ok (.istore 9, 2) := by decide +kernel
theorem dL_isTold_81 : decode cL_isTold 81 = .ok (.iload_n 3, 1) := by decide +kernel
theorem dL_isTold_82 : decode cL_isTold 82 = .ok (.aload_n 1, 1) := by decide +kernel
theorem dL_isTold_83 : decode cL_isTold 83 = .ok (.bipush 6, 2) := by decide +kernel
theorem dL_isTold_85 : decode cL_isTold 85 = .ok (.iaload, 1) := by decide +kernel
theorem dL_isTold_86 : decode cL_isTold 86 = .ok (.ifCond .ne 7, 3) := by decide +kernel
theorem dL_isTold_89 : decode cL_isTold 89 = .ok (.iconst 1, 1) := by decide +kernel
theorem dL_isTold_90 : decode cL_isTold 90 = .ok (.goto 4, 3) := by decide +kernel
theorem dL_isTold_93 : decode cL_isTold 93 = .ok (.iconst 0, 1) := by decide +kernel
theorem dL_isTold_94 : decode cL_isTold 94 = .ok (.if_icmp .ne 7, 3) := by decide +kernel
theorem dL_isTold_97 : decode cL_isTold 97 = .ok (.iconst 1, 1) := by decide +kernel
theorem dL_isTold_98 : decode cL_isTold 98 = .ok (.goto 4, 3) := by decide +kernel
theorem dL_isTold_101 : decode cL_isTold 101 = .ok (.iconst 0, 1) := by decide +kernel
theorem dL_isTold_102 : decode cL_isTold 102 = .ok (.istore 10, 2) := by decide +kernel
theorem dL_isTold_104 : decode cL_isTold 104 = .ok (.iload_n 3, 1) := by decide +kernel
theorem dL_isTold_105 : decode cL_isTold 105 = .ok (.ifCond .eq 12, 3) := by decide +kernel
theorem dL_isTold_108 : decode cL_isTold 108 = .ok (.iload 5, 2) := by decide +kernel
theorem dL_isTold_110 : decode cL_isTold 110 = .ok (.aload_n 1, 1) := by decide +kernel
theorem dL_isTold_111 : decode cL_isTold 111 = .ok (.iconst 1, 1) := by decide +kernel
theorem dL_isTold_112 : decode cL_isTold 112 = .ok (.iaload, 1) := by decide +kernel
theorem dL_isTold_113 : decode cL_isTold 113 = .ok (.iadd, 1) := by decide +kernel
theorem dL_isTold_114 : decode cL_isTold 114 = .ok (.goto 21, 3) := by decide +kernel
theorem dL_isTold_117 : decode cL_isTold 117 = .ok (.iload 5, 2) := by decide +kernel
theorem dL_isTold_119 : decode cL_isTold 119 = .ok (.aload_n 1, 1) := by decide +kernel
theorem dL_isTold_120 : decode cL_isTold 120 = .ok (.iconst 2, 1) := by decide +kernel
theorem dL_isTold_121 : decode cL_isTold 121 = .ok (.iaload, 1) := by decide +kernel
theorem dL_isTold_122 : decode cL_isTold 122 = .ok (.if_icmp .le 12, 3) := by decide +kernel
theorem dL_isTold_125 : decode cL_isTold 125 = .ok (.iload 5, 2) := by decide +kernel
theorem dL_isTold_127 : decode cL_isTold 127 = .ok (.aload_n 1, 1) := by decide +kernel
theorem dL_isTold_128 : decode cL_isTold 128 = .ok (.iconst 2, 1) := by decide +kernel
theorem dL_isTold_129 : decode cL_isTold 129 = .ok (.iaload, 1) := by decide +kernel
theorem dL_isTold_130 : decode cL_isTold 130 = .ok (.isub, 1) := by decide +kernel
theorem dL_isTold_131 : decode cL_isTold 131 = .ok (.goto 4, 3) := by decide +kernel
theorem dL_isTold_134 : decode cL_isTold 134 = .ok (.iconst 1, 1) := by decide +kernel
theorem dL_isTold_135 : decode cL_isTold 135 = .ok (.istore 5, 2) := by decide +kernel
theorem dL_isTold_137 : decode cL_isTold 137 = .ok (.iload 10, 2) := by decide +kernel
theorem dL_isTold_139 : decode cL_isTold 139 = .ok (.ifCond .eq 12, 3) := by decide +kernel
theorem dL_isTold_142 : decode cL_isTold 142 = .ok (.iload 6, 2) := by decide +kernel
theorem dL_isTold_144 : decode cL_isTold 144 = .ok (.aload_n 1, 1) := by decide +kernel
theorem dL_isTold_145 : decode cL_isTold 145 = .ok (.iconst 4, 1) := by decide +kernel
theorem dL_isTold_146 : decode cL_isTold 146 = .ok (.iaload, 1) := by decide +kernel
theorem dL_isTold_147 : decode cL_isTold 147 = .ok (.iadd, 1) := by decide +kernel
theorem dL_isTold_148 : decode cL_isTold 148 = .ok (.goto 21, 3) := by decide +kernel
theorem dL_isTold_151 : decode cL_isTold 151 = .ok (.iload 6, 2) := by decide +kernel
theorem dL_isTold_153 : decode cL_isTold 153 = .ok (.aload_n 1, 1) := by decide +kernel
theorem dL_isTold_154 : decode cL_isTold 154 = .ok (.iconst 5, 1) := by decide +kernel
theorem dL_isTold_155 : decode cL_isTold 155 = .ok (.iaload, 1) := by decide +kernel
theorem dL_isTold_156 : decode cL_isTold 156 = .ok (.if_icmp .le 12, 3) := by decide +kernel
theorem dL_isTold_159 : decode cL_isTold 159 = .ok (.iload 6, 2) := by decide +kernel
theorem dL_isTold_161 : decode cL_isTold 161 = .ok (.aload_n 1, 1) := by decide +kernel
theorem dL_isTold_162 : decode cL_isTold 162 = .ok (.iconst 5, 1) := by decide +kernel
theorem dL_isTold_163 : decode cL_isTold 163 = .ok (.iaload, 1) := by decide +kernel
theorem dL_isTold_164 : decode cL_isTold 164 = .ok (.isub, 1) := by decide +kernel
theorem dL_isTold_165 : decode cL_isTold 165 = .ok (.goto 4, 3) := by decide +kernel
theorem dL_isTold_168 : decode cL_isTold 168 = .ok (.iconst 1, 1) := by decide +kernel
theorem dL_isTold_169 : decode cL_isTold 169 = .ok (.istore 6, 2) := by decide +kernel
theorem dL_isTold_171 : decode cL_isTold 171 = .ok (.aload_n 0, 1) := by decide +kernel
theorem dL_isTold_172 : decode cL_isTold 172 = .ok (.iconst 0, 1) := by decide +kernel
theorem dL_isTold_173 : decode cL_isTold 173 = .ok (.iload_n 3, 1) := by decide +kernel
theorem dL_isTold_174 : decode cL_isTold 174 = .ok (.ifCond .eq 7, 3) := by decide +kernel
theorem dL_isTold_177 : decode cL_isTold 177 = .ok (.iconst 1, 1) := by decide +kernel
theorem dL_isTold_178 : decode cL_isTold 178 = .ok (.goto 4, 3) := by decide +kernel
theorem dL_isTold_181 : decode cL_isTold 181 = .ok (.iconst 0, 1) := by decide +kernel
theorem dL_isTold_182 : decode cL_isTold 182 = .ok (.invokestatic 118, 3) := by decide +kernel
theorem dL_isTold_185 : decode cL_isTold 185 = .ok (.l2i, 1) := by decide +kernel
theorem dL_isTold_186 : decode cL_isTold 186 = .ok (.istore 11, 2) := by decide +kernel
theorem dL_isTold_188 : decode cL_isTold 188 = .ok (.aload_n 0, 1) := by decide +kernel
theorem dL_isTold_189 : decode cL_isTold 189 = .ok (.invokevirtual 109, 3) := by decide +kernel
theorem dL_isTold_192 : decode cL_isTold 192 = .ok (.istore 12, 2) := by decide +kernel
theorem dL_isTold_194 : decode cL_isTold 194 = .ok (.iload 4, 2) := by decide +kernel
theorem dL_isTold_196 : decode cL_isTold 196 = .ok (.iconst 1, 1) := by decide +kernel
theorem dL_isTold_197 : decode cL_isTold 197 = .ok (.iadd, 1) := by decide +kernel
theorem dL_isTold_198 : decode cL_isTold 198 = .ok (.aload_n 1, 1) := by decide +kernel
theorem dL_isTold_199 : decode cL_isTold 199 = .ok (.bipush 8, 2) := by decide +kernel
theorem dL_isTold_201 : decode cL_isTold 201 = .ok (.iaload, 1) := by decide +kernel
theorem dL_isTold_202 : decode cL_isTold 202 = .ok (.if_icmp .ne 7, 3) := by decide +kernel
theorem dL_isTold_205 : decode cL_isTold 205 = .ok (.iconst 1, 1) := by decide +kernel
theorem dL_isTold_206 : decode cL_isTold 206 = .ok (.goto 4, 3) := by decide +kernel
theorem dL_isTold_209 : decode cL_isTold 209 = .ok (.iconst 0, 1) := by decide +kernel
theorem dL_isTold_210 : decode cL_isTold 210 = .ok (.istore 13, 2) := by decide +kernel
theorem dL_isTold_212 : decode cL_isTold 212 = .ok (.iload 12, 2) := by decide +kernel
theorem dL_isTold_214 : decode cL_isTold 214 = .ok (.aload_n 1, 1) := by decide +kernel
theorem dL_isTold_215 : decode cL_isTold 215 = .ok (.bipush 10, 2) := by decide +kernel
theorem dL_isTold_217 : decode cL_isTold 217 = .ok (.iaload, 1) := by decide +kernel
theorem dL_isTold_218 : decode cL_isTold 218 = .ok (.if_icmp .lt 7, 3) := by decide +kernel
theorem dL_isTold_221 : decode cL_isTold 221 = .ok (.iconst 1, 1) := by decide +kernel
theorem dL_isTold_222 : decode cL_isTold 222 = .ok (.goto 4, 3) := by decide +kernel
theorem dL_isTold_225 : decode cL_isTold 225 = .ok (.iconst 0, 1) := by decide +kernel
theorem dL_isTold_226 : decode cL_isTold 226 = .ok (.istore 14, 2) := by decide +kernel
theorem dL_isTold_228 : decode cL_isTold 228 = .ok (.iload 13, 2) := by decide +kernel
theorem dL_isTold_230 : decode cL_isTold 230 = .ok (.ifCond .ne 16, 3) := by decide +kernel
theorem dL_isTold_233 : decode cL_isTold 233 = .ok (.iload 12, 2) := by decide +kernel
theorem dL_isTold_235 : decode cL_isTold 235 = .ok (.aload_n 1, 1) := by decide +kernel
theorem dL_isTold_236 : decode cL_isTold 236 = .ok (.bipush 11, 2) := by decide +kernel
theorem dL_isTold_238 : decode cL_isTold 238 = .ok (.iaload, 1) := by decide +kernel
theorem dL_isTold_239 : decode cL_isTold 239 = .ok (.if_icmp .lt 7, 3) := by decide +kernel
theorem dL_isTold_242 : decode cL_isTold 242 = .ok (.iconst 1, 1) := by decide +kernel
theorem dL_isTold_243 : decode cL_isTold 243 = .ok (.goto 4, 3) := by decide +kernel
theorem dL_isTold_246 : decode cL_isTold 246 = .ok (.iconst 0, 1) := by decide +kernel
theorem dL_isTold_247 : decode cL_isTold 247 = .ok (.istore 15, 2) := by decide +kernel
theorem dL_isTold_249 : decode cL_isTold 249 = .ok (.iload 9, 2) := by decide +kernel
theorem dL_isTold_251 : decode cL_isTold 251 = .ok (.ifCond .ne 24, 3) := by decide +kernel
theorem dL_isTold_254 : decode cL_isTold 254 = .ok (.iload 12, 2) := by decide +kernel
theorem dL_isTold_256 : decode cL_isTold 256 = .ok (.aload_n 1, 1) := by decide +kernel
theorem dL_isTold_257 : decode cL_isTold 257 = .ok (.bipush 9, 2) := by decide +kernel
theorem dL_isTold_259 : decode cL_isTold 259 = .ok (.iaload, 1) := by decide +kernel
theorem dL_isTold_260 : decode cL_isTold 260 = .ok (.if_icmp .ge 19, 3) := by decide +kernel
theorem dL_isTold_263 : decode cL_isTold 263 = .ok (.iload 13, 2) := by decide +kernel
theorem dL_isTold_265 : decode cL_isTold 265 = .ok (.ifCond .ne 10, 3) := by decide +kernel
theorem dL_isTold_268 : decode cL_isTold 268 = .ok (.aload_n 1, 1) := by decide +kernel
theorem dL_isTold_269 : decode cL_isTold 269 = .ok (.bipush 13, 2) := by decide +kernel
theorem dL_isTold_271 : decode cL_isTold 271 = .ok (.iaload, 1) := by decide +kernel
theorem dL_isTold_272 : decode cL_isTold 272 = .ok (.ifCond .ne 7, 3) := by decide +kernel
theorem dL_isTold_275 : decode cL_isTold 275 = .ok (.iconst 1, 1) := by decide +kernel
theorem dL_isTold_276 : decode cL_isTold 276 = .ok (.goto 4, 3) := by decide +kernel
theorem dL_isTold_279 : decode cL_isTold 279 = .ok (.iconst 0, 1) := by decide +kernel
theorem dL_isTold_280 : decode cL_isTold 280 = .ok (.istore 16, 2) := by decide +kernel
theorem dL_isTold_282 : decode cL_isTold 282 = .ok (.iload 14, 2) := by decide +kernel
theorem dL_isTold_284 : decode cL_isTold 284 = .ok (.ifCond .eq 27, 3) := by decide +kernel
theorem dL_isTold_287 : decode cL_isTold 287 = .ok (.aload_n 1, 1) := by decide +kernel
theorem dL_isTold_288 : decode cL_isTold 288 = .ok (.bipush 12, 2) := by decide +kernel
theorem dL_isTold_290 : decode cL_isTold 290 = .ok (.iaload, 1) := by decide +kernel
theorem dL_isTold_291 : decode cL_isTold 291 = .ok (.iconst 1, 1) := by decide +kernel
theorem dL_isTold_292 : decode cL_isTold 292 = .ok (.aload_n 1, 1) := by decide +kernel
theorem dL_isTold_293 : decode cL_isTold 293 = .ok (.bipush 14, 2) := by decide +kernel
theorem dL_isTold_295 : decode cL_isTold 295 = .ok (.iaload, 1) := by decide +kernel
theorem dL_isTold_296 : decode cL_isTold 296 = .ok (.iconst 1, 1) := by decide +kernel
theorem dL_isTold_297 : decode cL_isTold 297 = .ok (.if_icmp .ne 8, 3) := by decide +kernel
theorem dL_isTold_300 : decode cL_isTold 300 = .ok (.iload 7, 2) := by decide +kernel
theorem dL_isTold_302 : decode cL_isTold 302 = .ok (.goto 4, 3) := by decide +kernel
theorem dL_isTold_305 : decode cL_isTold 305 = .ok (.iconst 0, 1) := by decide +kernel
theorem dL_isTold_306 : decode cL_isTold 306 = .ok (.iadd, 1) := by decide +kernel
theorem dL_isTold_307 : decode cL_isTold 307 = .ok (.imul, 1) := by decide +kernel
theorem dL_isTold_308 : decode cL_isTold 308 = .ok (.goto 4, 3) := by decide +kernel
theorem dL_isTold_311 : decode cL_isTold 311 = .ok (.iconst 0, 1) := by decide +kernel
theorem dL_isTold_312 : decode cL_isTold 312 = .ok (.istore 17, 2) := by decide +kernel
theorem dL_isTold_314 : decode cL_isTold 314 = .ok (.iload 15, 2) := by decide +kernel
theorem dL_isTold_316 : decode cL_isTold 316 = .ok (.ifCond .eq 9, 3) := by decide +kernel
theorem dL_isTold_319 : decode cL_isTold 319 = .ok (.sipush 1000, 3) := by decide +kernel
theorem dL_isTold_322 : decode cL_isTold 322 = .ok (.goto 35, 3) := by decide +kernel
theorem dL_isTold_325 : decode cL_isTold 325 = .ok (.iload 13, 2) := by decide +kernel
theorem dL_isTold_327 : decode cL_isTold 327 = .ok (.ifCond .ne 7, 3) := by decide +kernel
theorem dL_isTold_330 : decode cL_isTold 330 = .ok (.iconst 0, 1) := by decide +kernel
theorem dL_isTold_331 : decode cL_isTold 331 = .ok (.goto 26, 3) := by decide +kernel
theorem dL_isTold_334 : decode cL_isTold 334 = .ok (.iload 16, 2) := by decide +kernel
theorem dL_isTold_336 : decode cL_isTold 336 = .ok (.ifCond .eq 18, 3) := by decide +kernel
theorem dL_isTold_339 : decode cL_isTold 339 = .ok (.iload 12, 2) := by decide +kernel
theorem dL_isTold_341 : decode cL_isTold 341 = .ok (.bipush 100, 2) := by decide +kernel
theorem dL_isTold_343 : decode cL_isTold 343 = .ok (.if_icmp .ge 11, 3) := by decide +kernel
theorem dL_isTold_346 : decode cL_isTold 346 = .ok (.bipush 10, 2) := by decide +kernel
theorem dL_isTold_348 : decode cL_isTold 348 = .ok (.iload 12, 2) := by decide +kernel
theorem dL_isTold_350 : decode cL_isTold 350 = .ok (.imul, 1) := by decide +kernel
theorem dL_isTold_351 : decode cL_isTold 351 = .ok (.goto 6, 3) := by decide +kernel
theorem dL_isTold_354 : decode cL_isTold 354 = .ok (.sipush 1000, 3) := by decide +kernel
theorem dL_isTold_357 : decode cL_isTold 357 = .ok (.istore 18, 2) := by decide +kernel
theorem dL_isTold_359 : decode cL_isTold 359 = .ok (.aload_n 2, 1) := by decide +kernel
theorem dL_isTold_360 : decode cL_isTold 360 = .ok (.iload 4, 2) := by decide +kernel
theorem dL_isTold_362 : decode cL_isTold 362 = .ok (.iload 11, 2) := by decide +kernel
theorem dL_isTold_364 : decode cL_isTold 364 = .ok (.iastore, 1) := by decide +kernel
theorem dL_isTold_365 : decode cL_isTold 365 = .ok (.iload 11, 2) := by decide +kernel
theorem dL_isTold_367 : decode cL_isTold 367 = .ok (.iload 17, 2) := by decide +kernel
theorem dL_isTold_369 : decode cL_isTold 369 = .ok (.iload 18, 2) := by decide +kernel
theorem dL_isTold_371 : decode cL_isTold 371 = .ok (.iadd, 1) := by decide +kernel
theorem dL_isTold_372 : decode cL_isTold 372 = .ok (.if_icmp .ne 101, 3) := by decide +kernel
theorem dL_isTold_375 : decode cL_isTold 375 = .ok (.aload_n 0, 1) := by decide +kernel
theorem dL_isTold_376 : decode cL_isTold 376 = .ok (.invokevirtual 60, 3) := by decide +kernel
theorem dL_isTold_379 : decode cL_isTold 379 = .ok (.iload 8, 2) := by decide +kernel
theorem dL_isTold_381 : decode cL_isTold 381 = .ok (.iload 11, 2) := by decide +kernel
theorem dL_isTold_383 : decode cL_isTold 383 = .ok (.iadd, 1) := by decide +kernel
theorem dL_isTold_384 : decode cL_isTold 384 = .ok (.if_icmp .ne 89, 3) := by decide +kernel
theorem dL_isTold_387 : decode cL_isTold 387 = .ok (.aload_n 0, 1) := by decide +kernel
theorem dL_isTold_388 : decode cL_isTold 388 = .ok (.invokevirtual 51, 3) := by decide +kernel
theorem dL_isTold_391 : decode cL_isTold 391 = .ok (.iload 4, 2) := by decide +kernel
theorem dL_isTold_393 : decode cL_isTold 393 = .ok (.iconst 1, 1) := by decide +kernel
theorem dL_isTold_394 : decode cL_isTold 394 = .ok (.iadd, 1) := by decide +kernel
theorem dL_isTold_395 : decode cL_isTold 395 = .ok (.if_icmp .ne 78, 3) := by decide +kernel
theorem dL_isTold_398 : decode cL_isTold 398 = .ok (.aload_n 0, 1) := by decide +kernel
theorem dL_isTold_399 : decode cL_isTold 399 = .ok (.iconst 0, 1) := by decide +kernel
theorem dL_isTold_400 : decode cL_isTold 400 = .ok (.invokevirtual 35, 3) := by decide +kernel
theorem dL_isTold_403 : decode cL_isTold 403 = .ok (.iload 5, 2) := by decide +kernel
theorem dL_isTold_405 : decode cL_isTold 405 = .ok (.if_icmp .ne 68, 3) := by decide +kernel
theorem dL_isTold_408 : decode cL_isTold 408 = .ok (.aload_n 0, 1) := by decide +kernel
theorem dL_isTold_409 : decode cL_isTold 409 = .ok (.iconst 1, 1) := by decide +kernel
theorem dL_isTold_410 : decode cL_isTold 410 = .ok (.invokevirtual 35, 3) := by decide +kernel
theorem dL_isTold_413 : decode cL_isTold 413 = .ok (.iload 6, 2) := by decide +kernel
theorem dL_isTold_415 : decode cL_isTold 415 = .ok (.if_icmp .ne 58, 3) := by decide +kernel
theorem dL_isTold_418 : decode cL_isTold 418 = .ok (.aload_n 0, 1) := by decide +kernel
theorem dL_isTold_419 : decode cL_isTold 419 = .ok (.invokevirtual 76, 3) := by decide +kernel
theorem dL_isTold_422 : decode cL_isTold 422 = .ok (.iload 14, 2) := by decide +kernel
theorem dL_isTold_424 : decode cL_isTold 424 = .ok (.ifCond .eq 7, 3) := by decide +kernel
theorem dL_isTold_427 : decode cL_isTold 427 = .ok (.iconst 0, 1) := by decide +kernel
theorem dL_isTold_428 : decode cL_isTold 428 = .ok (.goto 7, 3) := by decide +kernel
theorem dL_isTold_431 : decode cL_isTold 431 = .ok (.iload 7, 2) := by decide +kernel
theorem dL_isTold_433 : decode cL_isTold 433 = .ok (.iconst 1, 1) := by decide +kernel
theorem dL_isTold_434 : decode cL_isTold 434 = .ok (.iadd, 1) := by decide +kernel
theorem dL_isTold_435 : decode cL_isTold 435 = .ok (.if_icmp .ne 38, 3) := by decide +kernel
theorem dL_isTold_438 : decode cL_isTold 438 = .ok (.aload_n 0, 1) := by decide +kernel
theorem dL_isTold_439 : decode cL_isTold 439 = .ok (.invokevirtual 69, 3) := by decide +kernel
theorem dL_isTold_442 : decode cL_isTold 442 = .ok (.iload 16, 2) := by decide +kernel
theorem dL_isTold_444 : decode cL_isTold 444 = .ok (.if_icmp .ne 29, 3) := by decide +kernel
theorem dL_isTold_447 : decode cL_isTold 447 = .ok (.aload_n 0, 1) := by decide +kernel
theorem dL_isTold_448 : decode cL_isTold 448 = .ok (.invokevirtual 63, 3) := by decide +kernel
theorem dL_isTold_451 : decode cL_isTold 451 = .ok (.iload 13, 2) := by decide +kernel
theorem dL_isTold_453 : decode cL_isTold 453 = .ok (.ifCond .ne 8, 3) := by decide +kernel
theorem dL_isTold_456 : decode cL_isTold 456 = .ok (.iload 15, 2) := by decide +kernel
theorem dL_isTold_458 : decode cL_isTold 458 = .ok (.ifCond .eq 7, 3) := by decide +kernel
theorem dL_isTold_461 : decode cL_isTold 461 = .ok (.iconst 1, 1) := by decide +kernel
theorem dL_isTold_462 : decode cL_isTold 462 = .ok (.goto 4, 3) := by decide +kernel
theorem dL_isTold_465 : decode cL_isTold 465 = .ok (.iconst 0, 1) := by decide +kernel
theorem dL_isTold_466 : decode cL_isTold 466 = .ok (.if_icmp .ne 7, 3) := by decide +kernel
theorem dL_isTold_469 : decode cL_isTold 469 = .ok (.iconst 1, 1) := by decide +kernel
theorem dL_isTold_470 : decode cL_isTold 470 = .ok (.goto 4, 3) := by decide +kernel
theorem dL_isTold_473 : decode cL_isTold 473 = .ok (.iconst 0, 1) := by decide +kernel
theorem dL_isTold_474 : decode cL_isTold 474 = .ok (.ireturn, 1) := by decide +kernel
set_option maxRecDepth 20000 in
theorem ggL_isSplit_L_all : GoodIn wsL_isSplit wsL_all := goodIn_ca (goodIn_r _ [5, 6, 7, 8, 9, 10, 11, 12, 13, 14, 15, 16, 17, 18, 19, 20, 21, 22, 23, 24, 25, 26, 27, 28, 29, 30, 31, 32, 33, 34, 35, 36, 37, 38, 39, 40, 41, 42, 43, 44, 45, 46, 47, 48, 49, 50, 51, 52, 53, 54, 55, 56, 57, 58, 59, 60, 61, 62, 63, 64, 65, 66, 67, 68, 69, 70, 71, 72, 73, 74, 75, 76, 77, 78, 79, 80, 81, 82, 83, 84, 85, 86, 87, 88, 89, 90, 91, 92, 93, 94, 95, 96, 97, 98, 99, 100, 101, 102, 103, 104, 105, 106, 107, 108, 109, 110, 111, 112, 113, 114, 115, 116, 117, 118, 119, 120, 121, 122, 123, 124, 125, 126, 127, 128, 129, 130, 131, 132, 133, 134, 135, 136, 137, 138, 139, 140, 141, 142, 143, 144, 145, 146, 147, 148, 149, 150, 151, 152, 153, 154, 155, 156, 157, 158, 159, 160, 161, 162, 163, 164, 165, 166, 167, 168, 169, 170, 171, 172, 173, 174, 175, 176, 177, 178, 179, 180, 181, 182, 183, 184, 185, 186, 187, 188, 189, 190, 191, 192, 193, 194, 195, 196, 197, 198, 199, 200, 201, 202, 203, 268, 269, 270, 271, 272, 273, 274, 275, 276, 277, 278, 279, 280, 281, 282, 283, 284, 285, 286, 287, 288, 289, 290, 291, 292, 293, 294, 295, 296, 297, 298, 299, 300, 301, 302, 303, 304, 305, 306, 307, 308, 309, 310, 311] rfl (by decide +kernel)) (goodIn_sub (fun _ h => List.mem_cons_of_mem _ (List.mem_append_left _ (List.mem_append_left _ (List.mem_append_right _ h)))) (by decide +kernel))
set_option maxRecDepth 20000 in
theorem gL_isSplit_L_all : GoodIn wsL_isSplit (va_wsS RL 122 yL_all wsL_all) := goodIn_app (goodIn_of _ (by decide +kernel)) ggL_isSplit_L_all
set_option maxRecDepth 20000 in
theorem ggL_isSplit_X5_worth : GoodIn wsL_isSplit wsX5_worth := goodIn_r _ [55, 56, 57, 19, 58, 59, 60, 61, 62, 63, 64, 65, 66, 67, 68, 69, 70, 71, 72, 73, 74, 75, 76, 77, 78, 79, 80, 81, 82, 83, 84, 85, 86, 87, 88, 89, 90, 91, 92, 93, 94, 95, 96, 97, 98, 99, 100, 101, 102, 103, 104, 105, 106, 107, 108, 109, 110, 111, 112, 113, 114, 115, 116, 117, 118, 119, 120, 121, 122, 123, 124, 125, 126, 127, 128, 129, 130, 131, 132, 133, 134, 135, 136, 137, 138, 139, 140, 141, 142, 143, 144, 145, 146, 147, 148, 149, 150, 151, 152, 153, 154, 155, 156, 157, 158, 159, 160, 161, 162, 163, 164, 165, 166, 167, 168, 169, 170, 171, 172, 173, 174, 175, 176, 177, 178, 179, 180, 181, 182, 183, 184, 185, 186, 187, 188, 189, 190, 17, 191, 192, 193, 194, 195, 196, 197, 198, 268, 269, 270, 271, 272, 281, 282, 283, 284, 285, 286, 287, 288, 289, 273, 274, 275, 276, 277, 278, 279, 280, 290, 291, 292, 293, 294, 295, 296, 297, 298, 299, 300, 301, 302, 303, 304, 305, 306, 307, 308, 309, 310, 311] rfl (by decide +kernel)
set_option maxRecDepth 20000 in
theorem gL_isSplit_X5_worth : GoodIn wsL_isSplit (wsV RL 81 RX5 yX5_worth wsX5_worth) := goodIn_app (goodIn_of _ (by decide +kernel)) ggL_isSplit_X5_worth
set_option maxRecDepth 20000 in
theorem ggL_isSplit_X5_knocks : GoodIn wsL_isSplit wsX5_knocks := goodIn_r _ [207, 56, 57, 19, 208, 59, 60, 61, 62, 63, 64, 65, 66, 67, 68, 69, 70, 71, 72, 73, 74, 75, 76, 77, 78, 79, 80, 81, 82, 83, 84, 85, 86, 87, 88, 89, 90, 91, 92, 93, 94, 95, 96, 97, 98, 99, 100, 101, 102, 103, 104, 105, 106, 107, 108, 109, 110, 111, 112, 113, 114, 115, 116, 117, 118, 119, 120, 121, 122, 123, 124, 125, 126, 127, 128, 129, 130, 131, 132, 133, 134, 135, 136, 137, 138, 139, 140, 141, 142, 143, 144, 145, 146, 147, 148, 149, 150, 151, 152, 153, 154, 155, 156, 157, 158, 159, 160, 161, 162, 163, 164, 165, 166, 167, 168, 169, 170, 171, 172, 173, 174, 175, 176, 177, 178, 179, 180, 181, 182, 183, 184, 185, 186, 187, 188, 189, 190, 17, 191, 192, 193, 194, 195, 196, 197, 198, 268, 269, 270, 271, 272, 281, 282, 283, 284, 285, 286, 287, 288, 289, 273, 274, 275, 276, 277, 278, 279, 280, 290, 291, 292, 293, 294, 295, 296, 297, 298, 299, 300, 301, 302, 303, 304, 305, 306, 307, 308, 309, 310, 311] rfl (by decide +kernel)
set_option maxRecDepth 20000 in
theorem gL_isSplit_X5_knocks : GoodIn wsL_isSplit (wsV RL 97 RX5 yX5_knocks wsX5_knocks) := goodIn_app (goodIn_of _ (by decide +kernel)) ggL_isSplit_X5_knocks
set_option maxRecDepth 20000 in
theorem ggL_isSplit_X5_least : GoodIn wsL_isSplit wsX5_least := goodIn_r _ [212, 56, 57, 19, 213, 59, 60, 61, 62, 63, 64, 65, 66, 67, 68, 69, 70, 71, 72, 73, 74, 75, 76, 77, 78, 79, 80, 81, 82, 83, 84, 85, 86, 87, 88, 89, 90, 91, 92, 93, 94, 95, 96, 97, 98, 99, 100, 101, 102, 103, 104, 105, 106, 107, 108, 109, 110, 111, 112, 113, 114, 115, 116, 117, 118, 119, 120, 121, 122, 123, 124, 125, 126, 127, 128, 129, 130, 131, 132, 133, 134, 135, 136, 137, 138, 139, 140, 141, 142, 143, 144, 145, 146, 147, 148, 149, 150, 151, 152, 153, 154, 155, 156, 157, 158, 159, 160, 161, 162, 163, 164, 165, 166, 167, 168, 169, 170, 171, 172, 173, 174, 175, 176, 177, 178, 179, 180, 181, 182, 183, 184, 185, 186, 187, 188, 189, 190, 17, 191, 192, 193, 194, 195, 196, 197, 198, 268, 269, 270, 271, 272, 281, 282, 283, 284, 285, 286, 287, 288, 289, 273, 274, 275, 276, 277, 278, 279, 280, 290, 291, 292, 293, 294, 295, 296, 297, 298, 299, 300, 301, 302, 303, 304, 305, 306, 307, 308, 309, 310, 311] rfl (by decide +kernel)
set_option maxRecDepth 20000 in
theorem gL_isSplit_X5_least : GoodIn wsL_isSplit (wsV RL 100 RX5 yX5_least wsX5_least) := goodIn_app (goodIn_of _ (by decide +kernel)) ggL_isSplit_X5_least
set_option maxRecDepth 20000 in
theorem ggL_isSplit_X5_most : GoodIn wsL_isSplit wsX5_most := goodIn_r _ [217, 56, 57, 19, 218, 59, 60, 61, 62, 63, 64, 65, 66, 67, 68, 69, 70, 71, 72, 73, 74, 75, 76, 77, 78, 79, 80, 81, 82, 83, 84, 85, 86, 87, 88, 89, 90, 91, 92, 93, 94, 95, 96, 97, 98, 99, 100, 101, 102, 103, 104, 105, 106, 107, 108, 109, 110, 111, 112, 113, 114, 115, 116, 117, 118, 119, 120, 121, 122, 123, 124, 125, 126, 127, 128, 129, 130, 131, 132, 133, 134, 135, 136, 137, 138, 139, 140, 141, 142, 143, 144, 145, 146, 147, 148, 149, 150, 151, 152, 153, 154, 155, 156, 157, 158, 159, 160, 161, 162, 163, 164, 165, 166, 167, 168, 169, 170, 171, 172, 173, 174, 175, 176, 177, 178, 179, 180, 181, 182, 183, 184, 185, 186, 187, 188, 189, 190, 17, 191, 192, 193, 194, 195, 196, 197, 198, 268, 269, 270, 271, 272, 281, 282, 283, 284, 285, 286, 287, 288, 289, 273, 274, 275, 276, 277, 278, 279, 280, 290, 291, 292, 293, 294, 295, 296, 297, 298, 299, 300, 301, 302, 303, 304, 305, 306, 307, 308, 309, 310, 311] rfl (by decide +kernel)
set_option maxRecDepth 20000 in
theorem gL_isSplit_X5_most : GoodIn wsL_isSplit (wsV RL 103 RX5 yX5_most wsX5_most) := goodIn_app (goodIn_of _ (by decide +kernel)) ggL_isSplit_X5_most
set_option maxRecDepth 20000 in
theorem ggL_isSplit_X5_divisor : GoodIn wsL_isSplit wsX5_divisor := goodIn_r _ [222, 19, 41, 57, 223, 20, 224, 190, 17, 191, 192, 268, 269, 270, 271, 272, 273, 274, 275, 276, 277, 278, 279, 280, 298, 299, 300, 301, 302, 303, 304, 305, 306, 307, 308] rfl (by decide +kernel)
set_option maxRecDepth 20000 in
theorem gL_isSplit_X5_divisor : GoodIn wsL_isSplit (wsV RL 90 RX5 yX5_divisor wsX5_divisor) := goodIn_app (goodIn_of _ (by decide +kernel)) ggL_isSplit_X5_divisor
set_option maxRecDepth 20000 in
theorem ggL_isSplit_X5_endsIn : GoodIn wsL_isSplit wsX5_endsIn := goodIn_ca (goodIn_r _ [228, 229, 230, 57, 223, 56, 19, 231, 232, 17, 233, 59, 60, 61, 62, 63, 64, 65, 66, 67, 68, 69, 70, 71, 72, 73, 74, 75, 76, 77, 78, 79, 80, 81, 82, 83, 84, 85, 86, 87, 88, 89, 90, 91, 92, 93, 94, 95, 96, 97, 98, 99, 100, 101, 102, 103, 104, 105, 106, 107, 108, 109, 110, 111, 112, 113, 114, 115, 116, 117, 118, 119, 120, 121, 122, 123, 124, 125, 126, 127, 128, 129, 130, 131, 132, 133, 134, 135, 136, 137, 138, 139, 140, 141, 142, 143, 144, 145, 146, 147, 148, 149, 150, 151, 152, 153, 154, 155, 156, 157, 158, 159, 160, 161, 162, 163, 164, 165, 166, 167, 168, 169, 170, 171, 172, 173, 174, 175, 176, 177, 178, 179, 180, 181, 182, 183, 184, 185, 186, 187, 188, 189, 190, 191, 192, 193, 194, 195, 196, 197, 198, 234, 235, 236, 237, 268, 269, 270, 271, 272, 298, 299, 300, 301, 302, 303, 304, 305, 306, 307, 308, 273, 274, 275, 276, 277, 278, 279, 280, 281, 282, 283, 284, 285, 286, 287, 288, 289, 290, 291, 292, 293, 294, 295, 296, 297, 309, 310, 311] rfl (by decide +kernel)) (goodIn_sub (fun _ h => List.mem_cons_of_mem _ (List.mem_append_left _ (List.mem_append_right _ h))) (by decide +kernel))
set_option maxRecDepth 20000 in
theorem gL_isSplit_X5_endsIn : GoodIn wsL_isSplit (wsV RL 39 RX5 yX5_endsIn wsX5_endsIn) := goodIn_app (goodIn_of _ (by decide +kernel)) ggL_isSplit_X5_endsIn
set_option maxRecDepth 20000 in
theorem ggL_isSplit_L_act : GoodIn wsL_isSplit wsL_act := goodIn_ca (goodIn_ca (goodIn_ca (goodIn_r _ [240, 241, 242, 243, 244, 245, 246, 247, 248, 249, 17, 250, 251, 252, 19, 41, 20, 253, 57, 254, 255, 136, 137, 138, 139, 140, 141, 142, 143, 144, 145, 146, 147, 148, 149, 150, 151, 152, 153, 154, 155, 156, 157, 158, 159, 160, 161, 93, 89, 94, 162, 163, 164, 165, 166, 88, 90, 167, 168, 169, 170, 171, 172, 173, 174, 175, 176, 177, 178, 179, 180, 181, 182, 183, 256, 257, 258, 259, 260, 261, 262, 263, 264, 265, 266, 267, 21, 22, 23, 24, 25, 26, 27, 28, 29, 30, 31, 225, 226, 227, 228, 229, 230, 223, 56, 231, 232, 233, 59, 60, 61, 62, 63, 64, 65, 66, 67, 68, 69, 70, 71, 72, 73, 74, 75, 76, 77, 78, 79, 80, 81, 82, 83, 84, 85, 86, 87, 91, 92, 95, 96, 97, 98, 99, 100, 101, 102, 103, 104, 105, 106, 107, 108, 109, 110, 111, 112, 113, 114, 115, 116, 117, 118, 119, 120, 121, 122, 123, 124, 125, 126, 127, 128, 129, 130, 131, 132, 133, 134, 135, 184, 185, 186, 187, 188, 189, 190, 191, 192, 193, 194, 195, 196, 197, 198, 234, 235, 236, 237, 268, 269, 270, 271, 272, 273, 274, 275, 276, 277, 278, 279, 280, 298, 299, 300, 301, 302, 303, 304, 305, 306, 307, 308, 309, 310, 311, 281, 282, 283, 284, 285, 286, 287, 288, 289, 290, 291, 292, 293, 294, 295, 296, 297] rfl (by decide +kernel)) (goodIn_sub (fun _ h => List.mem_cons_of_mem _ (List.mem_append_right _ h)) (by decide +kernel))) (goodIn_sub (fun _ h => List.mem_cons_of_mem _ (List.mem_append_left _ (List.mem_append_left _ (List.mem_append_right _ h)))) (by decide +kernel))) (goodIn_sub (fun _ h => List.mem_cons_of_mem _ (List.mem_append_left _ (List.mem_append_right _ h))) (by decide +kernel))
set_option maxRecDepth 20000 in
theorem gL_isSplit_L_act : GoodIn wsL_isSplit (va_wsS RL 118 yL_act wsL_act) := goodIn_app (goodIn_of _ (by decide +kernel)) ggL_isSplit_L_act
set_option maxRecDepth 20000 in
theorem ggL_isSplit_X5_told : GoodIn wsL_isSplit wsX5_told := goodIn_r _ [18, 19, 20, 268, 269, 270, 271, 272, 273, 274, 275, 276, 277, 278, 279, 280] rfl (by decide +kernel)
set_option maxRecDepth 20000 in
theorem gL_isSplit_X5_told : GoodIn wsL_isSplit (wsV RL 51 RX5 yX5_told wsX5_told) := goodIn_app (goodIn_of _ (by decide +kernel)) ggL_isSplit_X5_told
set_option maxRecDepth 20000 in
theorem ggL_isSplit_X5_isOver : GoodIn wsL_isSplit wsX5_isOver := goodIn_r _ [40, 19, 41, 268, 269, 270, 271, 272, 273, 274, 275, 276, 277, 278, 279, 280] rfl (by decide +kernel)
set_option maxRecDepth 20000 in
theorem gL_isSplit_X5_isOver : GoodIn wsL_isSplit (wsV RL 63 RX5 yX5_isOver wsX5_isOver) := goodIn_app (goodIn_of _ (by decide +kernel)) ggL_isSplit_X5_isOver
theorem dL_isSplit_0 : decode cL_isSplit 0 = .ok (.aload_n 0, 1) := by decide +kernel
theorem dL_isSplit_1 : decode cL_isSplit 1 = .ok (.invokestatic 122, 3) := by decide +kernel
theorem dL_isSplit_4 : decode cL_isSplit 4 = .ok (.lstore_n 3, 1) := by decide +kernel
theorem dL_isSplit_5 : decode cL_isSplit 5 = .ok (.aload_n 0, 1) := by decide +kernel
theorem dL_isSplit_6 : decode cL_isSplit 6 = .ok (.invokevirtual 81, 3) := by decide +kernel
theorem dL_isSplit_9 : decode cL_isSplit 9 = .ok (.lstore 5, 2) := by decide +kernel
theorem dL_isSplit_11 : decode cL_isSplit 11 = .ok (.aload_n 0, 1) := by decide +kernel
theorem dL_isSplit_12 : decode cL_isSplit 12 = .ok (.invokevirtual 97, 3) := by decide +kernel
theorem dL_isSplit_15 : decode cL_isSplit 15 = .ok (.lstore 7, 2) := by decide +kernel
theorem dL_isSplit_17 : decode cL_isSplit 17 = .ok (.aload_n 0, 1) := by decide +kernel
theorem dL_isSplit_18 : decode cL_isSplit 18 = .ok (.invokevirtual 100, 3) := by decide +kernel
theorem dL_isSplit_21 : decode cL_isSplit 21 = .ok (.istore 9, 2) := by decide +kernel
theorem dL_isSplit_23 : decode cL_isSplit 23 = .ok (.aload_n 0, 1) := by decide +kernel
theorem dL_isSplit_24 : decode cL_isSplit 24 = .ok (.invokevirtual 103, 3) := by decide +kernel
theorem dL_isSplit_27 : decode cL_isSplit 27 = .ok (.istore 10, 2) := by decide +kernel
theorem dL_isSplit_29 : decode cL_isSplit 29 = .ok (.aload_n 0, 1) := by decide +kernel
theorem dL_isSplit_30 : decode cL_isSplit 30 = .ok (.invokevirtual 90, 3) := by decide +kernel
theorem dL_isSplit_33 : decode cL_isSplit 33 = .ok (.ldc2_w 95, 3) := by decide +kernel
theorem dL_isSplit_36 : decode cL_isSplit 36 = .ok (.ldiv, 1) := by decide +kernel
theorem dL_isSplit_37 : decode cL_isSplit 37 = .ok (.lstore 11, 2) := by decide +kernel
theorem dL_isSplit_39 : decode cL_isSplit 39 = .ok (.iconst (-1), 1) := by decide +kernel
theorem dL_isSplit_40 : decode cL_isSplit 40 = .ok (.istore 13, 2) := by decide +kernel
theorem dL_isSplit_42 : decode cL_isSplit 42 = .ok (.iconst (-1), 1) := by decide +kernel
theorem dL_isSplit_43 : decode cL_isSplit 43 = .ok (.istore 14, 2) := by decide +kernel
theorem dL_isSplit_45 : decode cL_isSplit 45 = .ok (.iconst 1, 1) := by decide +kernel
theorem dL_isSplit_46 : decode cL_isSplit 46 = .ok (.istore 15, 2) := by decide +kernel
theorem dL_isSplit_48 : decode cL_isSplit 48 = .ok (.iconst 1, 1) := by decide +kernel
theorem dL_isSplit_49 : decode cL_isSplit 49 = .ok (.istore 16, 2) := by decide +kernel
theorem dL_isSplit_51 : decode cL_isSplit 51 = .ok (.iload 16, 2) := by decide +kernel
theorem dL_isSplit_53 : decode cL_isSplit 53 = .ok (.aload_n 1, 1) := by decide +kernel
theorem dL_isSplit_54 : decode cL_isSplit 54 = .ok (.bipush 8, 2) := by decide +kernel
theorem dL_isSplit_56 : decode cL_isSplit 56 = .ok (.iaload, 1) := by decide +kernel
theorem dL_isSplit_57 : decode cL_isSplit 57 = .ok (.if_icmp .gt 19, 3) := by decide +kernel
theorem dL_isSplit_60 : decode cL_isSplit 60 = .ok (.aload_n 2, 1) := by decide +kernel
theorem dL_isSplit_61 : decode cL_isSplit 61 = .ok (.iload 16, 2) := by decide +kernel
theorem dL_isSplit_63 : decode cL_isSplit 63 = .ok (.aload_n 0, 1) := by decide +kernel
theorem dL_isSplit_64 : decode cL_isSplit 64 = .ok (.iload 16, 2) := by decide +kernel
theorem dL_isSplit_66 : decode cL_isSplit 66 = .ok (.invokevirtual 39, 3) := by decide +kernel
theorem dL_isSplit_69 : decode cL_isSplit 69 = .ok (.lastore, 1) := by decide +kernel
theorem dL_isSplit_70 : decode cL_isSplit 70 = .ok (.iinc 16 1, 3) := by decide +kernel
theorem dL_isSplit_73 : decode cL_isSplit 73 = .ok (.goto (-22), 3) := by decide +kernel
theorem dL_isSplit_76 : decode cL_isSplit 76 = .ok (.iconst 0, 1) := by decide +kernel
theorem dL_isSplit_77 : decode cL_isSplit 77 = .ok (.istore 16, 2) := by decide +kernel
theorem dL_isSplit_79 : decode cL_isSplit 79 = .ok (.iload 16, 2) := by decide +kernel
theorem dL_isSplit_81 : decode cL_isSplit 81 = .ok (.iconst 2, 1) := by decide +kernel
theorem dL_isSplit_82 : decode cL_isSplit 82 = .ok (.if_icmp .ge 247, 3) := by decide +kernel
theorem dL_isSplit_85 : decode cL_isSplit 85 = .ok (.iload 15, 2) := by decide +kernel
theorem dL_isSplit_87 : decode cL_isSplit 87 = .ok (.ifCond .eq 242, 3) := by decide +kernel
theorem dL_isSplit_90 : decode cL_isSplit 90 = .ok (.aload_n 0, 1) := by decide +kernel
theorem dL_isSplit_91 : decode cL_isSplit 91 = .ok (.iconst 0, 1) := by decide +kernel
theorem dL_isSplit_92 : decode cL_isSplit 92 = .ok (.iload 16, 2) := by decide +kernel
theorem dL_isSplit_94 : decode cL_isSplit 94 = .ok (.invokestatic 118, 3) := by decide +kernel
theorem dL_isSplit_97 : decode cL_isSplit 97 = .ok (.l2i, 1) := by decide +kernel
theorem dL_isSplit_98 : decode cL_isSplit 98 = .ok (.istore 17, 2) := by decide +kernel
theorem dL_isSplit_100 : decode cL_isSplit 100 = .ok (.iload 16, 2) := by decide +kernel
theorem dL_isSplit_102 : decode cL_isSplit 102 = .ok (.iconst 1, 1) := by decide +kernel
theorem dL_isSplit_103 : decode cL_isSplit 103 = .ok (.if_icmp .ne 11, 3) := by decide +kernel
theorem dL_isSplit_106 : decode cL_isSplit 106 = .ok (.aload_n 1, 1) := by decide +kernel
theorem dL_isSplit_107 : decode cL_isSplit 107 = .ok (.bipush 7, 2) := by decide +kernel
theorem dL_isSplit_109 : decode cL_isSplit 109 = .ok (.iaload, 1) := by decide +kernel
theorem dL_isSplit_110 : decode cL_isSplit 110 = .ok (.i2l, 1) := by decide +kernel
theorem dL_isSplit_111 : decode cL_isSplit 111 = .ok (.goto 12, 3) := by decide +kernel
theorem dL_isSplit_114 : decode cL_isSplit 114 = .ok (.ldc2_w 95, 3) := by decide +kernel
theorem dL_isSplit_117 : decode cL_isSplit 117 = .ok (.aload_n 1, 1) := by decide +kernel
theorem dL_isSplit_118 : decode cL_isSplit 118 = .ok (.bipush 7, 2) := by decide +kernel
theorem dL_isSplit_120 : decode cL_isSplit 120 = .ok (.iaload, 1) := by decide +kernel
theorem dL_isSplit_121 : decode cL_isSplit 121 = .ok (.i2l, 1) := by decide +kernel
theorem dL_isSplit_122 : decode cL_isSplit 122 = .ok (.lsub, 1) := by decide +kernel
theorem dL_isSplit_123 : decode cL_isSplit 123 = .ok (.lstore 18, 2) := by decide +kernel
theorem dL_isSplit_125 : decode cL_isSplit 125 = .ok (.lload 11, 2) := by decide +kernel
theorem dL_isSplit_127 : decode cL_isSplit 127 = .ok (.aload_n 0, 1) := by decide +kernel
theorem dL_isSplit_128 : decode cL_isSplit 128 = .ok (.invokevirtual 90, 3) := by decide +kernel
theorem dL_isSplit_131 : decode cL_isSplit 131 = .ok (.ldiv, 1) := by decide +kernel
theorem dL_isSplit_132 : decode cL_isSplit 132 = .ok (.lstore 20, 2) := by decide +kernel
theorem dL_isSplit_134 : decode cL_isSplit 134 = .ok (.aload_n 0, 1) := by decide +kernel
theorem dL_isSplit_135 : decode cL_isSplit 135 = .ok (.invokevirtual 51, 3) := by decide +kernel
theorem dL_isSplit_138 : decode cL_isSplit 138 = .ok (.istore 22, 2) := by decide +kernel
theorem dL_isSplit_140 : decode cL_isSplit 140 = .ok (.iload 17, 2) := by decide +kernel
theorem dL_isSplit_142 : decode cL_isSplit 142 = .ok (.aload_n 0, 1) := by decide +kernel
theorem dL_isSplit_143 : decode cL_isSplit 143 = .ok (.invokevirtual 100, 3) := by decide +kernel
theorem dL_isSplit_146 : decode cL_isSplit 146 = .ok (.iadd, 1) := by decide +kernel
theorem dL_isSplit_147 : decode cL_isSplit 147 = .ok (.istore 23, 2) := by decide +kernel
theorem dL_isSplit_149 : decode cL_isSplit 149 = .ok (.iload 17, 2) := by decide +kernel
theorem dL_isSplit_151 : decode cL_isSplit 151 = .ok (.aload_n 0, 1) := by decide +kernel
theorem dL_isSplit_152 : decode cL_isSplit 152 = .ok (.invokevirtual 103, 3) := by decide +kernel
theorem dL_isSplit_155 : decode cL_isSplit 155 = .ok (.iadd, 1) := by decide +kernel
theorem dL_isSplit_156 : decode cL_isSplit 156 = .ok (.istore 24, 2) := by decide +kernel
theorem dL_isSplit_158 : decode cL_isSplit 158 = .ok (.lload 5, 2) := by decide +kernel
theorem dL_isSplit_160 : decode cL_isSplit 160 = .ok (.lload 18, 2) := by decide +kernel
theorem dL_isSplit_162 : decode cL_isSplit 162 = .ok (.iload 17, 2) := by decide +kernel
theorem dL_isSplit_164 : decode cL_isSplit 164 = .ok (.i2l, 1) := by decide +kernel
theorem dL_isSplit_165 : decode cL_isSplit 165 = .ok (.lload 11, 2) := by decide +kernel
theorem dL_isSplit_167 : decode cL_isSplit 167 = .ok (.lmul, 1) := by decide +kernel
theorem dL_isSplit_168 : decode cL_isSplit 168 = .ok (.lload 20, 2) := by decide +kernel
theorem dL_isSplit_170 : decode cL_isSplit 170 = .ok (.aload_n 0, 1) := by decide +kernel
theorem dL_isSplit_171 : decode cL_isSplit 171 = .ok (.invokevirtual 81, 3) := by decide +kernel
theorem dL_isSplit_174 : decode cL_isSplit 174 = .ok (.lmul, 1) := by decide +kernel
theorem dL_isSplit_175 : decode cL_isSplit 175 = .ok (.ladd, 1) := by decide +kernel
theorem dL_isSplit_176 : decode cL_isSplit 176 = .ok (.lmul, 1) := by decide +kernel
theorem dL_isSplit_177 : decode cL_isSplit 177 = .ok (.lsub, 1) := by decide +kernel
theorem dL_isSplit_178 : decode cL_isSplit 178 = .ok (.lstore 5, 2) := by decide +kernel
theorem dL_isSplit_180 : decode cL_isSplit 180 = .ok (.lload 7, 2) := by decide +kernel
theorem dL_isSplit_182 : decode cL_isSplit 182 = .ok (.lload 18, 2) := by decide +kernel
theorem dL_isSplit_184 : decode cL_isSplit 184 = .ok (.lload 20, 2) := by decide +kernel
theorem dL_isSplit_186 : decode cL_isSplit 186 = .ok (.lmul, 1) := by decide +kernel
theorem dL_isSplit_187 : decode cL_isSplit 187 = .ok (.aload_n 0, 1) := by decide +kernel
theorem dL_isSplit_188 : decode cL_isSplit 188 = .ok (.invokevirtual 97, 3) := by decide +kernel
theorem dL_isSplit_191 : decode cL_isSplit 191 = .ok (.lmul, 1) := by decide +kernel
theorem dL_isSplit_192 : decode cL_isSplit 192 = .ok (.lsub, 1) := by decide +kernel
theorem dL_isSplit_193 : decode cL_isSplit 193 = .ok (.lstore 7, 2) := by decide +kernel
theorem dL_isSplit_195 : decode cL_isSplit 195 = .ok (.iload 13, 2) := by decide +kernel
theorem dL_isSplit_197 : decode cL_isSplit 197 = .ok (.ifCond .lt 10, 3) := by decide +kernel
theorem dL_isSplit_200 : decode cL_isSplit 200 = .ok (.iload 23, 2) := by decide +kernel
theorem dL_isSplit_202 : decode cL_isSplit 202 = .ok (.iload 13, 2) := by decide +kernel
theorem dL_isSplit_204 : decode cL_isSplit 204 = .ok (.if_icmp .ge 8, 3) := by decide +kernel
theorem dL_isSplit_207 : decode cL_isSplit 207 = .ok (.iload 23, 2) := by decide +kernel
theorem dL_isSplit_209 : decode cL_isSplit 209 = .ok (.goto 5, 3) := by decide +kernel
theorem dL_isSplit_212 : decode cL_isSplit 212 = .ok (.iload 13, 2) := by decide +kernel
theorem dL_isSplit_214 : decode cL_isSplit 214 = .ok (.istore 13, 2) := by decide +kernel
theorem dL_isSplit_216 : decode cL_isSplit 216 = .ok (.iload 24, 2) := by decide +kernel
theorem dL_isSplit_218 : decode cL_isSplit 218 = .ok (.iload 14, 2) := by decide +kernel
theorem dL_isSplit_220 : decode cL_isSplit 220 = .ok (.if_icmp .le 8, 3) := by decide +kernel
theorem dL_isSplit_223 : decode cL_isSplit 223 = .ok (.iload 24, 2) := by decide +kernel
theorem dL_isSplit_225 : decode cL_isSplit 225 = .ok (.goto 5, 3) := by decide +kernel
theorem dL_isSplit_228 : decode cL_isSplit 228 = .ok (.iload 14, 2) := by decide +kernel
theorem dL_isSplit_230 : decode cL_isSplit 230 = .ok (.istore 14, 2) := by decide +kernel
theorem dL_isSplit_232 : decode cL_isSplit 232 = .ok (.iconst 1, 1) := by decide +kernel
theorem dL_isSplit_233 : decode cL_isSplit 233 = .ok (.istore 25, 2) := by decide +kernel
theorem dL_isSplit_235 : decode cL_isSplit 235 = .ok (.iload 25, 2) := by decide +kernel
theorem dL_isSplit_237 : decode cL_isSplit 237 = .ok (.aload_n 1, 1) := by decide +kernel
theorem dL_isSplit_238 : decode cL_isSplit 238 = .ok (.bipush 8, 2) := by decide +kernel
theorem dL_isSplit_240 : decode cL_isSplit 240 = .ok (.iaload, 1) := by decide +kernel
theorem dL_isSplit_241 : decode cL_isSplit 241 = .ok (.if_icmp .gt 48, 3) := by decide +kernel
theorem dL_isSplit_244 : decode cL_isSplit 244 = .ok (.aload_n 2, 1) := by decide +kernel
theorem dL_isSplit_245 : decode cL_isSplit 245 = .ok (.iload 25, 2) := by decide +kernel
theorem dL_isSplit_247 : decode cL_isSplit 247 = .ok (.dup2, 1) := by decide +kernel
theorem dL_isSplit_248 : decode cL_isSplit 248 = .ok (.laload, 1) := by decide +kernel
theorem dL_isSplit_249 : decode cL_isSplit 249 = .ok (.lload 18, 2) := by decide +kernel
theorem dL_isSplit_251 : decode cL_isSplit 251 = .ok (.aload_n 0, 1) := by decide +kernel
theorem dL_isSplit_252 : decode cL_isSplit 252 = .ok (.invokevirtual 63, 3) := by decide +kernel
theorem dL_isSplit_255 : decode cL_isSplit 255 = .ok (.ifCond .eq 19, 3) := by decide +kernel
theorem dL_isSplit_258 : decode cL_isSplit 258 = .ok (.iload 25, 2) := by decide +kernel
theorem dL_isSplit_260 : decode cL_isSplit 260 = .ok (.iload 22, 2) := by decide +kernel
theorem dL_isSplit_262 : decode cL_isSplit 262 = .ok (.if_icmp .ne 8, 3) := by decide +kernel
theorem dL_isSplit_265 : decode cL_isSplit 265 = .ok (.lload 11, 2) := by decide +kernel
theorem dL_isSplit_267 : decode cL_isSplit 267 = .ok (.goto 13, 3) := by decide +kernel
theorem dL_isSplit_270 : decode cL_isSplit 270 = .ok (.lconst 0, 1) := by decide +kernel
theorem dL_isSplit_271 : decode cL_isSplit 271 = .ok (.goto 9, 3) := by decide +kernel
theorem dL_isSplit_274 : decode cL_isSplit 274 = .ok (.aload_n 0, 1) := by decide +kernel
theorem dL_isSplit_275 : decode cL_isSplit 275 = .ok (.iload 25, 2) := by decide +kernel
theorem dL_isSplit_277 : decode cL_isSplit 277 = .ok (.invokevirtual 39, 3) := by decide +kernel
theorem dL_isSplit_280 : decode cL_isSplit 280 = .ok (.lmul, 1) := by decide +kernel
theorem dL_isSplit_281 : decode cL_isSplit 281 = .ok (.lsub, 1) := by decide +kernel
theorem dL_isSplit_282 : decode cL_isSplit 282 = .ok (.lastore, 1) := by decide +kernel
theorem dL_isSplit_283 : decode cL_isSplit 283 = .ok (.iinc 25 1, 3) := by decide +kernel
theorem dL_isSplit_286 : decode cL_isSplit 286 = .ok (.goto (-51), 3) := by decide +kernel
theorem dL_isSplit_289 : decode cL_isSplit 289 = .ok (.iload 17, 2) := by decide +kernel
theorem dL_isSplit_291 : decode cL_isSplit 291 = .ok (.ifCond .lt 29, 3) := by decide +kernel
theorem dL_isSplit_294 : decode cL_isSplit 294 = .ok (.aload_n 0, 1) := by decide +kernel
theorem dL_isSplit_295 : decode cL_isSplit 295 = .ok (.iconst 1, 1) := by decide +kernel
theorem dL_isSplit_296 : decode cL_isSplit 296 = .ok (.iconst 0, 1) := by decide +kernel
theorem dL_isSplit_297 : decode cL_isSplit 297 = .ok (.invokestatic 118, 3) := by decide +kernel
theorem dL_isSplit_300 : decode cL_isSplit 300 = .ok (.iload 17, 2) := by decide +kernel
theorem dL_isSplit_302 : decode cL_isSplit 302 = .ok (.i2l, 1) := by decide +kernel
theorem dL_isSplit_303 : decode cL_isSplit 303 = .ok (.lcmp, 1) := by decide +kernel
theorem dL_isSplit_304 : decode cL_isSplit 304 = .ok (.ifCond .ne 16, 3) := by decide +kernel
theorem dL_isSplit_307 : decode cL_isSplit 307 = .ok (.aload_n 0, 1) := by decide +kernel
theorem dL_isSplit_308 : decode cL_isSplit 308 = .ok (.invokestatic 122, 3) := by decide +kernel
theorem dL_isSplit_311 : decode cL_isSplit 311 = .ok (.lload_n 3, 1) := by decide +kernel
theorem dL_isSplit_312 : decode cL_isSplit 312 = .ok (.lcmp, 1) := by decide +kernel
theorem dL_isSplit_313 : decode cL_isSplit 313 = .ok (.ifCond .ne 7, 3) := by decide +kernel
theorem dL_isSplit_316 : decode cL_isSplit 316 = .ok (.iconst 1, 1) := by decide +kernel
theorem dL_isSplit_317 : decode cL_isSplit 317 = .ok (.goto 4, 3) := by decide +kernel
theorem dL_isSplit_320 : decode cL_isSplit 320 = .ok (.iconst 0, 1) := by decide +kernel
theorem dL_isSplit_321 : decode cL_isSplit 321 = .ok (.istore 15, 2) := by decide +kernel
theorem dL_isSplit_323 : decode cL_isSplit 323 = .ok (.iinc 16 1, 3) := by decide +kernel
theorem dL_isSplit_326 : decode cL_isSplit 326 = .ok (.goto (-247), 3) := by decide +kernel
theorem dL_isSplit_329 : decode cL_isSplit 329 = .ok (.iconst 1, 1) := by decide +kernel
theorem dL_isSplit_330 : decode cL_isSplit 330 = .ok (.istore 16, 2) := by decide +kernel
theorem dL_isSplit_332 : decode cL_isSplit 332 = .ok (.iload 16, 2) := by decide +kernel
theorem dL_isSplit_334 : decode cL_isSplit 334 = .ok (.aload_n 1, 1) := by decide +kernel
theorem dL_isSplit_335 : decode cL_isSplit 335 = .ok (.bipush 8, 2) := by decide +kernel
theorem dL_isSplit_337 : decode cL_isSplit 337 = .ok (.iaload, 1) := by decide +kernel
theorem dL_isSplit_338 : decode cL_isSplit 338 = .ok (.if_icmp .gt 30, 3) := by decide +kernel
theorem dL_isSplit_341 : decode cL_isSplit 341 = .ok (.iload 15, 2) := by decide +kernel
theorem dL_isSplit_343 : decode cL_isSplit 343 = .ok (.ifCond .eq 25, 3) := by decide +kernel
theorem dL_isSplit_346 : decode cL_isSplit 346 = .ok (.aload_n 2, 1) := by decide +kernel
theorem dL_isSplit_347 : decode cL_isSplit 347 = .ok (.iload 16, 2) := by decide +kernel
theorem dL_isSplit_349 : decode cL_isSplit 349 = .ok (.laload, 1) := by decide +kernel
theorem dL_isSplit_350 : decode cL_isSplit 350 = .ok (.lconst 0, 1) := by decide +kernel
theorem dL_isSplit_351 : decode cL_isSplit 351 = .ok (.lcmp, 1) := by decide +kernel
theorem dL_isSplit_352 : decode cL_isSplit 352 = .ok (.ifCond .ne 7, 3) := by decide +kernel
theorem dL_isSplit_355 : decode cL_isSplit 355 = .ok (.iconst 1, 1) := by decide +kernel
theorem dL_isSplit_356 : decode cL_isSplit 356 = .ok (.goto 4, 3) := by decide +kernel
theorem dL_isSplit_359 : decode cL_isSplit 359 = .ok (.iconst 0, 1) := by decide +kernel
theorem dL_isSplit_360 : decode cL_isSplit 360 = .ok (.istore 15, 2) := by decide +kernel
theorem dL_isSplit_362 : decode cL_isSplit 362 = .ok (.iinc 16 1, 3) := by decide +kernel
theorem dL_isSplit_365 : decode cL_isSplit 365 = .ok (.goto (-33), 3) := by decide +kernel
theorem dL_isSplit_368 : decode cL_isSplit 368 = .ok (.iload 15, 2) := by decide +kernel
theorem dL_isSplit_370 : decode cL_isSplit 370 = .ok (.ifCond .eq 35, 3) := by decide +kernel
theorem dL_isSplit_373 : decode cL_isSplit 373 = .ok (.lload 5, 2) := by decide +kernel
theorem dL_isSplit_375 : decode cL_isSplit 375 = .ok (.lconst 0, 1) := by decide +kernel
theorem dL_isSplit_376 : decode cL_isSplit 376 = .ok (.lcmp, 1) := by decide +kernel
theorem dL_isSplit_377 : decode cL_isSplit 377 = .ok (.ifCond .ne 28, 3) := by decide +kernel
theorem dL_isSplit_380 : decode cL_isSplit 380 = .ok (.lload 7, 2) := by decide +kernel
theorem dL_isSplit_382 : decode cL_isSplit 382 = .ok (.lconst 0, 1) := by decide +kernel
theorem dL_isSplit_383 : decode cL_isSplit 383 = .ok (.lcmp, 1) := by decide +kernel
theorem dL_isSplit_384 : decode cL_isSplit 384 = .ok (.ifCond .ne 21, 3) := by decide +kernel
theorem dL_isSplit_387 : decode cL_isSplit 387 = .ok (.iload 13, 2) := by decide +kernel
theorem dL_isSplit_389 : decode cL_isSplit 389 = .ok (.iload 9, 2) := by decide +kernel
theorem dL_isSplit_391 : decode cL_isSplit 391 = .ok (.if_icmp .ne 14, 3) := by decide +kernel
theorem dL_isSplit_394 : decode cL_isSplit 394 = .ok (.iload 14, 2) := by decide +kernel
theorem dL_isSplit_396 : decode cL_isSplit 396 = .ok (.iload 10, 2) := by decide +kernel
theorem dL_isSplit_398 : decode cL_isSplit 398 = .ok (.if_icmp .ne 7, 3) := by decide +kernel
theorem dL_isSplit_401 : decode cL_isSplit 401 = .ok (.iconst 1, 1) := by decide +kernel
theorem dL_isSplit_402 : decode cL_isSplit 402 = .ok (.goto 4, 3) := by decide +kernel
theorem dL_isSplit_405 : decode cL_isSplit 405 = .ok (.iconst 0, 1) := by decide +kernel
theorem dL_isSplit_406 : decode cL_isSplit 406 = .ok (.ireturn, 1) := by decide +kernel
