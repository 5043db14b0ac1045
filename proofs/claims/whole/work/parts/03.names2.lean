set_option maxRecDepth 20000 in
theorem ggX5_setNote_X5_isWithin : GoodIn wsX5_setNote wsX5_isWithin := goodIn_r _ [13] (by decide +kernel) (by decide +kernel)
set_option maxRecDepth 20000 in
theorem gX5_setNote_X5_isWithin : GoodIn wsX5_setNote (va_wsS RX5 48 yX5_isWithin wsX5_isWithin) := goodIn_app (goodIn_of _ (by decide +kernel)) ggX5_setNote_X5_isWithin
set_option maxRecDepth 20000 in
theorem ggX5_setNote_X3_begin : GoodIn wsX5_setNote wsX3_begin := goodIn_r _ [18, 19, 20, 21, 22, 23, 24, 25, 26, 27, 28, 29, 46, 47, 48, 49, 50, 51, 52, 53, 35, 36, 37, 38, 39, 40, 41, 42, 43, 44, 45, 54, 55, 56] (by decide +kernel) (by decide +kernel)
set_option maxRecDepth 20000 in
theorem gX5_setNote_X3_begin : GoodIn wsX5_setNote (wsV RX5 75 RX3 yX3_begin wsX3_begin) := goodIn_app (goodIn_of _ (by decide +kernel)) ggX5_setNote_X3_begin
theorem dX5_setNote_0 : decode cX5_setNote 0 = .ok (.iload_n 1, 1) := by decide +kernel
theorem dX5_setNote_1 : decode cX5_setNote 1 = .ok (.iconst 1, 1) := by decide +kernel
theorem dX5_setNote_2 : decode cX5_setNote 2 = .ok (.bipush 8, 2) := by decide +kernel
theorem dX5_setNote_4 : decode cX5_setNote 4 = .ok (.invokestatic 48, 3) := by decide +kernel
theorem dX5_setNote_7 : decode cX5_setNote 7 = .ok (.ifCond .eq 48, 3) := by decide +kernel
theorem dX5_setNote_10 : decode cX5_setNote 10 = .ok (.iload_n 2, 1) := by decide +kernel
theorem dX5_setNote_11 : decode cX5_setNote 11 = .ok (.iconst 0, 1) := by decide +kernel
theorem dX5_setNote_12 : decode cX5_setNote 12 = .ok (.bipush 100, 2) := by decide +kernel
theorem dX5_setNote_14 : decode cX5_setNote 14 = .ok (.invokestatic 48, 3) := by decide +kernel
theorem dX5_setNote_17 : decode cX5_setNote 17 = .ok (.ifCond .eq 38, 3) := by decide +kernel
theorem dX5_setNote_20 : decode cX5_setNote 20 = .ok (.iload_n 3, 1) := by decide +kernel
theorem dX5_setNote_21 : decode cX5_setNote 21 = .ok (.iconst 0, 1) := by decide +kernel
theorem dX5_setNote_22 : decode cX5_setNote 22 = .ok (.sipush 150, 3) := by decide +kernel
theorem dX5_setNote_25 : decode cX5_setNote 25 = .ok (.invokestatic 48, 3) := by decide +kernel
theorem dX5_setNote_28 : decode cX5_setNote 28 = .ok (.ifCond .eq 27, 3) := by decide +kernel
theorem dX5_setNote_31 : decode cX5_setNote 31 = .ok (.iload 4, 2) := by decide +kernel
theorem dX5_setNote_33 : decode cX5_setNote 33 = .ok (.iconst 0, 1) := by decide +kernel
theorem dX5_setNote_34 : decode cX5_setNote 34 = .ok (.sipush 200, 3) := by decide +kernel
theorem dX5_setNote_37 : decode cX5_setNote 37 = .ok (.invokestatic 48, 3) := by decide +kernel
theorem dX5_setNote_40 : decode cX5_setNote 40 = .ok (.ifCond .eq 15, 3) := by decide +kernel
theorem dX5_setNote_43 : decode cX5_setNote 43 = .ok (.iload 5, 2) := by decide +kernel
theorem dX5_setNote_45 : decode cX5_setNote 45 = .ok (.iconst 0, 1) := by decide +kernel
theorem dX5_setNote_46 : decode cX5_setNote 46 = .ok (.sipush 500, 3) := by decide +kernel
theorem dX5_setNote_49 : decode cX5_setNote 49 = .ok (.invokestatic 48, 3) := by decide +kernel
theorem dX5_setNote_52 : decode cX5_setNote 52 = .ok (.ifCond .ne 13, 3) := by decide +kernel
theorem dX5_setNote_55 : decode cX5_setNote 55 = .ok (.new 52, 3) := by decide +kernel
theorem dX5_setNote_58 : decode cX5_setNote 58 = .ok (.dup, 1) := by decide +kernel
theorem dX5_setNote_59 : decode cX5_setNote 59 = .ok (.ldc 88, 2) := by decide +kernel
theorem dX5_setNote_61 : decode cX5_setNote 61 = .ok (.invokespecial 56, 3) := by decide +kernel
theorem dX5_setNote_64 : decode cX5_setNote 64 = .ok (.athrow, 1) := by decide +kernel
theorem dX5_setNote_65 : decode cX5_setNote 65 = .ok (.aload_n 0, 1) := by decide +kernel
theorem dX5_setNote_66 : decode cX5_setNote 66 = .ok (.getfield 12, 3) := by decide +kernel
theorem dX5_setNote_69 : decode cX5_setNote 69 = .ok (.iload_n 1, 1) := by decide +kernel
theorem dX5_setNote_70 : decode cX5_setNote 70 = .ok (.putfield 90, 3) := by decide +kernel
theorem dX5_setNote_73 : decode cX5_setNote 73 = .ok (.aload_n 0, 1) := by decide +kernel
theorem dX5_setNote_74 : decode cX5_setNote 74 = .ok (.getfield 12, 3) := by decide +kernel
theorem dX5_setNote_77 : decode cX5_setNote 77 = .ok (.iload_n 2, 1) := by decide +kernel
theorem dX5_setNote_78 : decode cX5_setNote 78 = .ok (.putfield 93, 3) := by decide +kernel
theorem dX5_setNote_81 : decode cX5_setNote 81 = .ok (.aload_n 0, 1) := by decide +kernel
theorem dX5_setNote_82 : decode cX5_setNote 82 = .ok (.getfield 12, 3) := by decide +kernel
theorem dX5_setNote_85 : decode cX5_setNote 85 = .ok (.iload_n 3, 1) := by decide +kernel
theorem dX5_setNote_86 : decode cX5_setNote 86 = .ok (.putfield 96, 3) := by decide +kernel
theorem dX5_setNote_89 : decode cX5_setNote 89 = .ok (.aload_n 0, 1) := by decide +kernel
theorem dX5_setNote_90 : decode cX5_setNote 90 = .ok (.getfield 12, 3) := by decide +kernel
theorem dX5_setNote_93 : decode cX5_setNote 93 = .ok (.iload 4, 2) := by decide +kernel
theorem dX5_setNote_95 : decode cX5_setNote 95 = .ok (.putfield 99, 3) := by decide +kernel
theorem dX5_setNote_98 : decode cX5_setNote 98 = .ok (.aload_n 0, 1) := by decide +kernel
theorem dX5_setNote_99 : decode cX5_setNote 99 = .ok (.getfield 12, 3) := by decide +kernel
theorem dX5_setNote_102 : decode cX5_setNote 102 = .ok (.iload 5, 2) := by decide +kernel
theorem dX5_setNote_104 : decode cX5_setNote 104 = .ok (.putfield 102, 3) := by decide +kernel
theorem dX5_setNote_107 : decode cX5_setNote 107 = .ok (.aload_n 0, 1) := by decide +kernel
theorem dX5_setNote_108 : decode cX5_setNote 108 = .ok (.getfield 19, 3) := by decide +kernel
theorem dX5_setNote_111 : decode cX5_setNote 111 = .ok (.aload_n 0, 1) := by decide +kernel
theorem dX5_setNote_112 : decode cX5_setNote 112 = .ok (.getfield 12, 3) := by decide +kernel
theorem dX5_setNote_115 : decode cX5_setNote 115 = .ok (.invokevirtual 75, 3) := by decide +kernel
theorem dX5_setNote_118 : decode cX5_setNote 118 = .ok (.return_, 1) := by decide +kernel
set_option maxRecDepth 20000 in
theorem ggX5_setKind_X3_begin : GoodIn wsX5_setKind wsX3_begin := goodIn_r _ [9, 10, 11, 12, 13, 14, 15, 16, 17, 18, 19, 20, 37, 38, 39, 40, 41, 42, 43, 44, 26, 27, 28, 29, 30, 31, 32, 33, 34, 35, 36, 45, 46, 47] (by decide +kernel) (by decide +kernel)
set_option maxRecDepth 20000 in
theorem gX5_setKind_X3_begin : GoodIn wsX5_setKind (wsV RX5 75 RX3 yX3_begin wsX3_begin) := goodIn_app (goodIn_of _ (by decide +kernel)) ggX5_setKind_X3_begin
theorem dX5_setKind_0 : decode cX5_setKind 0 = .ok (.aload_n 0, 1) := by decide +kernel
theorem dX5_setKind_1 : decode cX5_setKind 1 = .ok (.getfield 12, 3) := by decide +kernel
theorem dX5_setKind_4 : decode cX5_setKind 4 = .ok (.iload_n 1, 1) := by decide +kernel
theorem dX5_setKind_5 : decode cX5_setKind 5 = .ok (.putfield 105, 3) := by decide +kernel
theorem dX5_setKind_8 : decode cX5_setKind 8 = .ok (.aload_n 0, 1) := by decide +kernel
theorem dX5_setKind_9 : decode cX5_setKind 9 = .ok (.getfield 12, 3) := by decide +kernel
theorem dX5_setKind_12 : decode cX5_setKind 12 = .ok (.iload_n 2, 1) := by decide +kernel
theorem dX5_setKind_13 : decode cX5_setKind 13 = .ok (.putfield 108, 3) := by decide +kernel
theorem dX5_setKind_16 : decode cX5_setKind 16 = .ok (.aload_n 0, 1) := by decide +kernel
theorem dX5_setKind_17 : decode cX5_setKind 17 = .ok (.getfield 19, 3) := by decide +kernel
theorem dX5_setKind_20 : decode cX5_setKind 20 = .ok (.aload_n 0, 1) := by decide +kernel
theorem dX5_setKind_21 : decode cX5_setKind 21 = .ok (.getfield 12, 3) := by decide +kernel
theorem dX5_setKind_24 : decode cX5_setKind 24 = .ok (.invokevirtual 75, 3) := by decide +kernel
theorem dX5_setKind_27 : decode cX5_setKind 27 = .ok (.return_, 1) := by decide +kernel
set_option maxRecDepth 20000 in
theorem ggX5_tell_X3_move : GoodIn wsX5_tell wsX3_move := goodIn_r _ [13, 14, 15, 16, 17, 18, 19, 20, 21, 22, 23, 24, 25, 26, 27, 28, 29, 30, 31, 32, 33, 34, 35, 36, 37, 38, 39, 40, 41, 12, 42, 43, 44, 45, 46, 47, 48, 49, 50, 51, 52, 53, 54, 55, 56, 57, 58, 59, 60, 61, 62, 68, 69, 70, 71, 72, 73, 74, 75, 76, 77, 78, 79, 80, 81, 82, 83, 84, 85, 86, 87, 88, 89] (by decide +kernel) (by decide +kernel)
set_option maxRecDepth 20000 in
theorem gX5_tell_X3_move : GoodIn wsX5_tell (wsV RX5 122 RX3 yX3_move wsX3_move) := goodIn_app (goodIn_of _ (by decide +kernel)) ggX5_tell_X3_move
theorem dX5_tell_0 : decode cX5_tell 0 = .ok (.aload_n 0, 1) := by decide +kernel
theorem dX5_tell_1 : decode cX5_tell 1 = .ok (.getfield 19, 3) := by decide +kernel
theorem dX5_tell_4 : decode cX5_tell 4 = .ok (.getfield 111, 3) := by decide +kernel
theorem dX5_tell_7 : decode cX5_tell 7 = .ok (.ifCond .eq 13, 3) := by decide +kernel
theorem dX5_tell_10 : decode cX5_tell 10 = .ok (.new 114, 3) := by decide +kernel
theorem dX5_tell_13 : decode cX5_tell 13 = .ok (.dup, 1) := by decide +kernel
theorem dX5_tell_14 : decode cX5_tell 14 = .ok (.ldc 116, 2) := by decide +kernel
theorem dX5_tell_16 : decode cX5_tell 16 = .ok (.invokespecial 118, 3) := by decide +kernel
theorem dX5_tell_19 : decode cX5_tell 19 = .ok (.athrow, 1) := by decide +kernel
theorem dX5_tell_20 : decode cX5_tell 20 = .ok (.iconst 1, 1) := by decide +kernel
theorem dX5_tell_21 : decode cX5_tell 21 = .ok (.aload_n 0, 1) := by decide +kernel
theorem dX5_tell_22 : decode cX5_tell 22 = .ok (.getfield 19, 3) := by decide +kernel
theorem dX5_tell_25 : decode cX5_tell 25 = .ok (.getfield 119, 3) := by decide +kernel
theorem dX5_tell_28 : decode cX5_tell 28 = .ok (.ishl, 1) := by decide +kernel
theorem dX5_tell_29 : decode cX5_tell 29 = .ok (.istore_n 2, 1) := by decide +kernel
theorem dX5_tell_30 : decode cX5_tell 30 = .ok (.aload_n 0, 1) := by decide +kernel
theorem dX5_tell_31 : decode cX5_tell 31 = .ok (.iload_n 1, 1) := by decide +kernel
theorem dX5_tell_32 : decode cX5_tell 32 = .ok (.ifCond .eq 12, 3) := by decide +kernel
theorem dX5_tell_35 : decode cX5_tell 35 = .ok (.aload_n 0, 1) := by decide +kernel
theorem dX5_tell_36 : decode cX5_tell 36 = .ok (.getfield 33, 3) := by decide +kernel
theorem dX5_tell_39 : decode cX5_tell 39 = .ok (.iload_n 2, 1) := by decide +kernel
theorem dX5_tell_40 : decode cX5_tell 40 = .ok (.ior, 1) := by decide +kernel
theorem dX5_tell_41 : decode cX5_tell 41 = .ok (.goto 11, 3) := by decide +kernel
theorem dX5_tell_44 : decode cX5_tell 44 = .ok (.aload_n 0, 1) := by decide +kernel
theorem dX5_tell_45 : decode cX5_tell 45 = .ok (.getfield 33, 3) := by decide +kernel
theorem dX5_tell_48 : decode cX5_tell 48 = .ok (.iload_n 2, 1) := by decide +kernel
theorem dX5_tell_49 : decode cX5_tell 49 = .ok (.iconst (-1), 1) := by decide +kernel
theorem dX5_tell_50 : decode cX5_tell 50 = .ok (.ixor, 1) := by decide +kernel
theorem dX5_tell_51 : decode cX5_tell 51 = .ok (.iand, 1) := by decide +kernel
theorem dX5_tell_52 : decode cX5_tell 52 = .ok (.putfield 33, 3) := by decide +kernel
theorem dX5_tell_55 : decode cX5_tell 55 = .ok (.aload_n 0, 1) := by decide +kernel
theorem dX5_tell_56 : decode cX5_tell 56 = .ok (.getfield 19, 3) := by decide +kernel
theorem dX5_tell_59 : decode cX5_tell 59 = .ok (.aload_n 0, 1) := by decide +kernel
theorem dX5_tell_60 : decode cX5_tell 60 = .ok (.getfield 12, 3) := by decide +kernel
theorem dX5_tell_63 : decode cX5_tell 63 = .ok (.iload_n 1, 1) := by decide +kernel
theorem dX5_tell_64 : decode cX5_tell 64 = .ok (.invokevirtual 122, 3) := by decide +kernel
theorem dX5_tell_67 : decode cX5_tell 67 = .ok (.aload_n 0, 1) := by decide +kernel
theorem dX5_tell_68 : decode cX5_tell 68 = .ok (.getfield 19, 3) := by decide +kernel
theorem dX5_tell_71 : decode cX5_tell 71 = .ok (.getfield 126, 3) := by decide +kernel
theorem dX5_tell_74 : decode cX5_tell 74 = .ok (.ireturn, 1) := by decide +kernel
set_option maxRecDepth 20000 in
theorem ggX5_takeBack_X3_begin : GoodIn wsX5_takeBack wsX3_begin := goodIn_r _ [12, 13, 14, 15, 16, 17, 18, 19, 20, 21, 22, 23, 76, 77, 78, 79, 80, 81, 82, 83, 84, 85, 86, 87, 88, 89, 90, 91, 92, 93, 94, 95, 96, 97] (by decide +kernel) (by decide +kernel)
set_option maxRecDepth 20000 in
theorem gX5_takeBack_X3_begin : GoodIn wsX5_takeBack (wsV RX5 75 RX3 yX3_begin wsX3_begin) := goodIn_app (goodIn_of _ (by decide +kernel)) ggX5_takeBack_X3_begin
set_option maxRecDepth 20000 in
theorem ggX5_takeBack_X5_isUpAt : GoodIn wsX5_takeBack wsX5_isUpAt := goodIn_r _ [27] (by decide +kernel) (by decide +kernel)
set_option maxRecDepth 20000 in
theorem gX5_takeBack_X5_isUpAt : GoodIn wsX5_takeBack (va_wsS RX5 131 yX5_isUpAt wsX5_isUpAt) := goodIn_app (goodIn_of _ (by decide +kernel)) ggX5_takeBack_X5_isUpAt
set_option maxRecDepth 20000 in
theorem ggX5_takeBack_X3_move : GoodIn wsX5_takeBack wsX3_move := goodIn_r _ [31, 13, 14, 16, 17, 18, 32, 33, 34, 35, 20, 22, 36, 21, 23, 37, 38, 39, 40, 41, 42, 43, 44, 45, 46, 47, 48, 49, 50, 11, 51, 52, 53, 54, 55, 56, 57, 58, 59, 60, 61, 62, 63, 64, 19, 65, 66, 67, 68, 69, 70, 76, 77, 78, 79, 80, 81, 82, 83, 84, 85, 86, 87, 88, 89, 90, 91, 92, 93, 94, 95, 96, 97] (by decide +kernel) (by decide +kernel)
set_option maxRecDepth 20000 in
theorem gX5_takeBack_X3_move : GoodIn wsX5_takeBack (wsV RX5 122 RX3 yX3_move wsX3_move) := goodIn_app (goodIn_of _ (by decide +kernel)) ggX5_takeBack_X3_move
theorem dX5_takeBack_0 : decode cX5_takeBack 0 = .ok (.aload_n 0, 1) := by decide +kernel
theorem dX5_takeBack_1 : decode cX5_takeBack 1 = .ok (.getfield 19, 3) := by decide +kernel
theorem dX5_takeBack_4 : decode cX5_takeBack 4 = .ok (.getfield 119, 3) := by decide +kernel
theorem dX5_takeBack_7 : decode cX5_takeBack 7 = .ok (.iconst 1, 1) := by decide +kernel
theorem dX5_takeBack_8 : decode cX5_takeBack 8 = .ok (.if_icmp .ge 13, 3) := by decide +kernel
theorem dX5_takeBack_11 : decode cX5_takeBack 11 = .ok (.new 114, 3) := by decide +kernel
theorem dX5_takeBack_14 : decode cX5_takeBack 14 = .ok (.dup, 1) := by decide +kernel
theorem dX5_takeBack_15 : decode cX5_takeBack 15 = .ok (.ldc 129, 2) := by decide +kernel
theorem dX5_takeBack_17 : decode cX5_takeBack 17 = .ok (.invokespecial 118, 3) := by decide +kernel
theorem dX5_takeBack_20 : decode cX5_takeBack 20 = .ok (.athrow, 1) := by decide +kernel
theorem dX5_takeBack_21 : decode cX5_takeBack 21 = .ok (.aload_n 0, 1) := by decide +kernel
theorem dX5_takeBack_22 : decode cX5_takeBack 22 = .ok (.getfield 19, 3) := by decide +kernel
theorem dX5_takeBack_25 : decode cX5_takeBack 25 = .ok (.getfield 126, 3) := by decide +kernel
theorem dX5_takeBack_28 : decode cX5_takeBack 28 = .ok (.istore_n 1, 1) := by decide +kernel
theorem dX5_takeBack_29 : decode cX5_takeBack 29 = .ok (.aload_n 0, 1) := by decide +kernel
theorem dX5_takeBack_30 : decode cX5_takeBack 30 = .ok (.getfield 19, 3) := by decide +kernel
theorem dX5_takeBack_33 : decode cX5_takeBack 33 = .ok (.getfield 119, 3) := by decide +kernel
theorem dX5_takeBack_36 : decode cX5_takeBack 36 = .ok (.iconst 1, 1) := by decide +kernel
theorem dX5_takeBack_37 : decode cX5_takeBack 37 = .ok (.isub, 1) := by decide +kernel
theorem dX5_takeBack_38 : decode cX5_takeBack 38 = .ok (.istore_n 2, 1) := by decide +kernel
theorem dX5_takeBack_39 : decode cX5_takeBack 39 = .ok (.aload_n 0, 1) := by decide +kernel
theorem dX5_takeBack_40 : decode cX5_takeBack 40 = .ok (.getfield 19, 3) := by decide +kernel
theorem dX5_takeBack_43 : decode cX5_takeBack 43 = .ok (.aload_n 0, 1) := by decide +kernel
theorem dX5_takeBack_44 : decode cX5_takeBack 44 = .ok (.getfield 12, 3) := by decide +kernel
theorem dX5_takeBack_47 : decode cX5_takeBack 47 = .ok (.invokevirtual 75, 3) := by decide +kernel
theorem dX5_takeBack_50 : decode cX5_takeBack 50 = .ok (.iconst 0, 1) := by decide +kernel
theorem dX5_takeBack_51 : decode cX5_takeBack 51 = .ok (.istore_n 3, 1) := by decide +kernel
theorem dX5_takeBack_52 : decode cX5_takeBack 52 = .ok (.iload_n 3, 1) := by decide +kernel
theorem dX5_takeBack_53 : decode cX5_takeBack 53 = .ok (.iload_n 2, 1) := by decide +kernel
theorem dX5_takeBack_54 : decode cX5_takeBack 54 = .ok (.if_icmp .ge 28, 3) := by decide +kernel
theorem dX5_takeBack_57 : decode cX5_takeBack 57 = .ok (.aload_n 0, 1) := by decide +kernel
theorem dX5_takeBack_58 : decode cX5_takeBack 58 = .ok (.getfield 19, 3) := by decide +kernel
theorem dX5_takeBack_61 : decode cX5_takeBack 61 = .ok (.aload_n 0, 1) := by decide +kernel
theorem dX5_takeBack_62 : decode cX5_takeBack 62 = .ok (.getfield 12, 3) := by decide +kernel
theorem dX5_takeBack_65 : decode cX5_takeBack 65 = .ok (.aload_n 0, 1) := by decide +kernel
theorem dX5_takeBack_66 : decode cX5_takeBack 66 = .ok (.getfield 33, 3) := by decide +kernel
theorem dX5_takeBack_69 : decode cX5_takeBack 69 = .ok (.iload_n 3, 1) := by decide +kernel
theorem dX5_takeBack_70 : decode cX5_takeBack 70 = .ok (.invokestatic 131, 3) := by decide +kernel
theorem dX5_takeBack_73 : decode cX5_takeBack 73 = .ok (.invokevirtual 122, 3) := by decide +kernel
theorem dX5_takeBack_76 : decode cX5_takeBack 76 = .ok (.iinc 3 1, 3) := by decide +kernel
theorem dX5_takeBack_79 : decode cX5_takeBack 79 = .ok (.goto (-27), 3) := by decide +kernel
theorem dX5_takeBack_82 : decode cX5_takeBack 82 = .ok (.iload_n 1, 1) := by decide +kernel
theorem dX5_takeBack_83 : decode cX5_takeBack 83 = .ok (.ireturn, 1) := by decide +kernel
theorem dX5_told_0 : decode cX5_told 0 = .ok (.aload_n 0, 1) := by decide +kernel
theorem dX5_told_1 : decode cX5_told 1 = .ok (.getfield 19, 3) := by decide +kernel
theorem dX5_told_4 : decode cX5_told 4 = .ok (.getfield 119, 3) := by decide +kernel
theorem dX5_told_7 : decode cX5_told 7 = .ok (.ireturn, 1) := by decide +kernel
set_option maxRecDepth 20000 in
theorem ggX5_price_X5_isAsset : GoodIn wsX5_price wsX5_isAsset := goodIn_r _ [9] (by decide +kernel) (by decide +kernel)
set_option maxRecDepth 20000 in
theorem gX5_price_X5_isAsset : GoodIn wsX5_price (va_wsS RX5 37 yX5_isAsset wsX5_isAsset) := goodIn_app (goodIn_of _ (by decide +kernel)) ggX5_price_X5_isAsset
theorem dX5_price_0 : decode cX5_price 0 = .ok (.iload_n 1, 1) := by decide +kernel
theorem dX5_price_1 : decode cX5_price 1 = .ok (.invokestatic 37, 3) := by decide +kernel
theorem dX5_price_4 : decode cX5_price 4 = .ok (.ifCond .ne 13, 3) := by decide +kernel
theorem dX5_price_7 : decode cX5_price 7 = .ok (.new 41, 3) := by decide +kernel
theorem dX5_price_10 : decode cX5_price 10 = .ok (.dup, 1) := by decide +kernel
theorem dX5_price_11 : decode cX5_price 11 = .ok (.ldc 43, 2) := by decide +kernel
theorem dX5_price_13 : decode cX5_price 13 = .ok (.invokespecial 45, 3) := by decide +kernel
theorem dX5_price_16 : decode cX5_price 16 = .ok (.athrow, 1) := by decide +kernel
theorem dX5_price_17 : decode cX5_price 17 = .ok (.iload_n 1, 1) := by decide +kernel
theorem dX5_price_18 : decode cX5_price 18 = .ok (.ifCond .ne 13, 3) := by decide +kernel
theorem dX5_price_21 : decode cX5_price 21 = .ok (.aload_n 0, 1) := by decide +kernel
theorem dX5_price_22 : decode cX5_price 22 = .ok (.getfield 19, 3) := by decide +kernel
theorem dX5_price_25 : decode cX5_price 25 = .ok (.getfield 135, 3) := by decide +kernel
theorem dX5_price_28 : decode cX5_price 28 = .ok (.goto 10, 3) := by decide +kernel
theorem dX5_price_31 : decode cX5_price 31 = .ok (.aload_n 0, 1) := by decide +kernel
theorem dX5_price_32 : decode cX5_price 32 = .ok (.getfield 19, 3) := by decide +kernel
theorem dX5_price_35 : decode cX5_price 35 = .ok (.getfield 138, 3) := by decide +kernel
theorem dX5_price_38 : decode cX5_price 38 = .ok (.ireturn, 1) := by decide +kernel
set_option maxRecDepth 20000 in
theorem ggX5_worst_X3_worstLevel : GoodIn wsX5_worst wsX3_worstLevel := goodIn_r _ [7, 8, 9, 10, 11, 12, 13, 14, 15, 16, 17, 18, 19, 20, 21, 27, 28, 29, 30, 31, 32, 33, 34, 35, 36, 37, 38, 39, 40, 41, 42, 43, 44, 45, 46, 47, 48] (by decide +kernel) (by decide +kernel)
set_option maxRecDepth 20000 in
theorem gX5_worst_X3_worstLevel : GoodIn wsX5_worst (wsV RX5 141 RX3 yX3_worstLevel wsX3_worstLevel) := goodIn_app (goodIn_of _ (by decide +kernel)) ggX5_worst_X3_worstLevel
theorem dX5_worst_0 : decode cX5_worst 0 = .ok (.aload_n 0, 1) := by decide +kernel
theorem dX5_worst_1 : decode cX5_worst 1 = .ok (.getfield 19, 3) := by decide +kernel
theorem dX5_worst_4 : decode cX5_worst 4 = .ok (.aload_n 0, 1) := by decide +kernel
theorem dX5_worst_5 : decode cX5_worst 5 = .ok (.getfield 12, 3) := by decide +kernel
theorem dX5_worst_8 : decode cX5_worst 8 = .ok (.invokevirtual 141, 3) := by decide +kernel
theorem dX5_worst_11 : decode cX5_worst 11 = .ok (.ireturn, 1) := by decide +kernel
theorem dX5_isKnocked_0 : decode cX5_isKnocked 0 = .ok (.aload_n 0, 1) := by decide +kernel
theorem dX5_isKnocked_1 : decode cX5_isKnocked 1 = .ok (.getfield 19, 3) := by decide +kernel
theorem dX5_isKnocked_4 : decode cX5_isKnocked 4 = .ok (.getfield 145, 3) := by decide +kernel
theorem dX5_isKnocked_7 : decode cX5_isKnocked 7 = .ok (.ireturn, 1) := by decide +kernel
theorem dX5_missed_0 : decode cX5_missed 0 = .ok (.aload_n 0, 1) := by decide +kernel
theorem dX5_missed_1 : decode cX5_missed 1 = .ok (.getfield 19, 3) := by decide +kernel
theorem dX5_missed_4 : decode cX5_missed 4 = .ok (.getfield 148, 3) := by decide +kernel
theorem dX5_missed_7 : decode cX5_missed 7 = .ok (.ireturn, 1) := by decide +kernel
theorem dX5_paid_0 : decode cX5_paid 0 = .ok (.aload_n 0, 1) := by decide +kernel
theorem dX5_paid_1 : decode cX5_paid 1 = .ok (.getfield 19, 3) := by decide +kernel
theorem dX5_paid_4 : decode cX5_paid 4 = .ok (.getfield 151, 3) := by decide +kernel
theorem dX5_paid_7 : decode cX5_paid 7 = .ok (.ireturn, 1) := by decide +kernel
theorem dX5_isOver_0 : decode cX5_isOver 0 = .ok (.aload_n 0, 1) := by decide +kernel
theorem dX5_isOver_1 : decode cX5_isOver 1 = .ok (.getfield 19, 3) := by decide +kernel
theorem dX5_isOver_4 : decode cX5_isOver 4 = .ok (.getfield 111, 3) := by decide +kernel
theorem dX5_isOver_7 : decode cX5_isOver 7 = .ok (.ireturn, 1) := by decide +kernel
set_option maxRecDepth 20000 in
theorem ggX5_worth_X4_grow : GoodIn wsX5_worth wsX4_grow := goodIn_r _ [9, 10, 11, 12, 13, 14, 15, 16, 17, 18, 19, 20, 21, 8, 22, 23, 24, 25, 26, 27, 28, 29, 30, 31, 32, 33, 34, 35, 36, 37, 38, 39, 40, 41, 42, 43, 44, 45, 46, 47, 48, 49, 50, 51, 52, 53, 54, 55, 56, 57, 58, 59, 60, 61, 62, 63, 64, 65, 66, 67, 68, 69, 70, 71, 72, 73, 74, 75, 76, 77, 78, 79, 80, 81, 82, 83, 84, 85, 86, 87, 88, 89, 90, 91, 92, 93, 94, 95, 96, 97, 98, 99, 100, 101, 102, 103, 104, 105, 106, 107, 108, 109, 110, 111, 112, 113, 114, 115, 116, 117, 118, 119, 120, 121, 122, 123, 124, 125, 126, 127, 128, 129, 130, 131, 132, 133, 134, 135, 136, 137, 138, 139, 140, 141, 142, 143, 144, 145, 160, 161, 162, 163, 164, 165, 166, 167, 151, 152, 153, 154, 155, 156, 157, 158, 159, 168, 169, 170, 171, 172, 173, 174, 175, 176, 177, 178, 179, 180, 181, 182, 183, 184, 185, 186, 187, 188, 189] (by decide +kernel) (by decide +kernel)
set_option maxRecDepth 20000 in
theorem gX5_worth_X4_grow : GoodIn wsX5_worth (wsV RX5 154 RX4 yX4_grow wsX4_grow) := goodIn_app (goodIn_of _ (by decide +kernel)) ggX5_worth_X4_grow
theorem dX5_worth_0 : decode cX5_worth 0 = .ok (.aload_n 0, 1) := by decide +kernel
theorem dX5_worth_1 : decode cX5_worth 1 = .ok (.getfield 29, 3) := by decide +kernel
theorem dX5_worth_4 : decode cX5_worth 4 = .ok (.aload_n 0, 1) := by decide +kernel
theorem dX5_worth_5 : decode cX5_worth 5 = .ok (.getfield 12, 3) := by decide +kernel
theorem dX5_worth_8 : decode cX5_worth 8 = .ok (.aload_n 0, 1) := by decide +kernel
theorem dX5_worth_9 : decode cX5_worth 9 = .ok (.getfield 19, 3) := by decide +kernel
theorem dX5_worth_12 : decode cX5_worth 12 = .ok (.invokevirtual 154, 3) := by decide +kernel
theorem dX5_worth_15 : decode cX5_worth 15 = .ok (.aload_n 0, 1) := by decide +kernel
theorem dX5_worth_16 : decode cX5_worth 16 = .ok (.getfield 29, 3) := by decide +kernel
theorem dX5_worth_19 : decode cX5_worth 19 = .ok (.getfield 158, 3) := by decide +kernel
theorem dX5_worth_22 : decode cX5_worth 22 = .ok (.lreturn, 1) := by decide +kernel
set_option maxRecDepth 20000 in
theorem ggX5_worthByPaths_X5_worthOfRow : GoodIn wsX5_worthByPaths wsX5_worthOfRow := goodIn_r _ [10, 11, 1, 2, 12, 3, 13, 14, 15, 16, 17, 18, 19, 20, 21, 22, 23, 24, 25, 26, 27, 28, 9, 29, 30, 31, 32, 33, 34, 35, 36, 37, 38, 39, 40, 41, 42, 43, 44, 45, 46, 47, 48, 49, 50, 51, 52, 53, 54, 55, 56, 57, 58, 59, 60, 61, 62, 63, 64, 65, 66, 67, 68, 69, 70, 71, 72, 73, 74, 75, 76, 77, 78, 79, 80, 81, 82, 83, 84, 85, 86, 87, 88, 89, 90, 91, 92, 93, 94, 95, 96, 97, 98, 99, 100, 101, 102, 103, 104, 105, 106, 107] (by decide +kernel) (by decide +kernel)
set_option maxRecDepth 20000 in
theorem gX5_worthByPaths_X5_worthOfRow : GoodIn wsX5_worthByPaths (wsV RX5 162 RX5 yX5_worthOfRow wsX5_worthOfRow) := goodIn_app (goodIn_of _ (by decide +kernel)) ggX5_worthByPaths_X5_worthOfRow
theorem dX5_worthByPaths_0 : decode cX5_worthByPaths 0 = .ok (.aload_n 0, 1) := by decide +kernel
theorem dX5_worthByPaths_1 : decode cX5_worthByPaths 1 = .ok (.getfield 19, 3) := by decide +kernel
theorem dX5_worthByPaths_4 : decode cX5_worthByPaths 4 = .ok (.getfield 111, 3) := by decide +kernel
theorem dX5_worthByPaths_7 : decode cX5_worthByPaths 7 = .ok (.ifCond .eq 5, 3) := by decide +kernel
theorem dX5_worthByPaths_10 : decode cX5_worthByPaths 10 = .ok (.lconst 0, 1) := by decide +kernel
theorem dX5_worthByPaths_11 : decode cX5_worthByPaths 11 = .ok (.lreturn, 1) := by decide +kernel
theorem dX5_worthByPaths_12 : decode cX5_worthByPaths 12 = .ok (.aload_n 0, 1) := by decide +kernel
theorem dX5_worthByPaths_13 : decode cX5_worthByPaths 13 = .ok (.getfield 12, 3) := by decide +kernel
theorem dX5_worthByPaths_16 : decode cX5_worthByPaths 16 = .ok (.getfield 90, 3) := by decide +kernel
theorem dX5_worthByPaths_19 : decode cX5_worthByPaths 19 = .ok (.aload_n 0, 1) := by decide +kernel
theorem dX5_worthByPaths_20 : decode cX5_worthByPaths 20 = .ok (.getfield 19, 3) := by decide +kernel
theorem dX5_worthByPaths_23 : decode cX5_worthByPaths 23 = .ok (.getfield 119, 3) := by decide +kernel
theorem dX5_worthByPaths_26 : decode cX5_worthByPaths 26 = .ok (.isub, 1) := by decide +kernel
theorem dX5_worthByPaths_27 : decode cX5_worthByPaths 27 = .ok (.istore_n 1, 1) := by decide +kernel
theorem dX5_worthByPaths_28 : decode cX5_worthByPaths 28 = .ok (.lconst 0, 1) := by decide +kernel
theorem dX5_worthByPaths_29 : decode cX5_worthByPaths 29 = .ok (.lstore_n 2, 1) := by decide +kernel
theorem dX5_worthByPaths_30 : decode cX5_worthByPaths 30 = .ok (.iconst 0, 1) := by decide +kernel
theorem dX5_worthByPaths_31 : decode cX5_worthByPaths 31 = .ok (.istore 4, 2) := by decide +kernel
theorem dX5_worthByPaths_33 : decode cX5_worthByPaths 33 = .ok (.iload 4, 2) := by decide +kernel
theorem dX5_worthByPaths_35 : decode cX5_worthByPaths 35 = .ok (.sipush 256, 3) := by decide +kernel
theorem dX5_worthByPaths_38 : decode cX5_worthByPaths 38 = .ok (.if_icmp .ge 27, 3) := by decide +kernel
theorem dX5_worthByPaths_41 : decode cX5_worthByPaths 41 = .ok (.iload 4, 2) := by decide +kernel
theorem dX5_worthByPaths_43 : decode cX5_worthByPaths 43 = .ok (.iconst 1, 1) := by decide +kernel
theorem dX5_worthByPaths_44 : decode cX5_worthByPaths 44 = .ok (.iload_n 1, 1) := by decide +kernel
theorem dX5_worthByPaths_45 : decode cX5_worthByPaths 45 = .ok (.ishl, 1) := by decide +kernel
theorem dX5_worthByPaths_46 : decode cX5_worthByPaths 46 = .ok (.if_icmp .ge 19, 3) := by decide +kernel
theorem dX5_worthByPaths_49 : decode cX5_worthByPaths 49 = .ok (.lload_n 2, 1) := by decide +kernel
theorem dX5_worthByPaths_50 : decode cX5_worthByPaths 50 = .ok (.aload_n 0, 1) := by decide +kernel
theorem dX5_worthByPaths_51 : decode cX5_worthByPaths 51 = .ok (.iload 4, 2) := by decide +kernel
theorem dX5_worthByPaths_53 : decode cX5_worthByPaths 53 = .ok (.iload_n 1, 1) := by decide +kernel
theorem dX5_worthByPaths_54 : decode cX5_worthByPaths 54 = .ok (.invokevirtual 162, 3) := by decide +kernel
theorem dX5_worthByPaths_57 : decode cX5_worthByPaths 57 = .ok (.ladd, 1) := by decide +kernel
theorem dX5_worthByPaths_58 : decode cX5_worthByPaths 58 = .ok (.lstore_n 2, 1) := by decide +kernel
theorem dX5_worthByPaths_59 : decode cX5_worthByPaths 59 = .ok (.iinc 4 1, 3) := by decide +kernel
theorem dX5_worthByPaths_62 : decode cX5_worthByPaths 62 = .ok (.goto (-29), 3) := by decide +kernel
theorem dX5_worthByPaths_65 : decode cX5_worthByPaths 65 = .ok (.lload_n 2, 1) := by decide +kernel
theorem dX5_worthByPaths_66 : decode cX5_worthByPaths 66 = .ok (.lreturn, 1) := by decide +kernel
set_option maxRecDepth 20000 in
theorem ggX5_divisor_X5_wholeWeightOf : GoodIn wsX5_divisor wsX5_wholeWeightOf := goodIn_r _ [9, 10] (by decide +kernel) (by decide +kernel)
set_option maxRecDepth 20000 in
theorem gX5_divisor_X5_wholeWeightOf : GoodIn wsX5_divisor (va_wsS RX5 166 yX5_wholeWeightOf wsX5_wholeWeightOf) := goodIn_app (goodIn_of _ (by decide +kernel)) ggX5_divisor_X5_wholeWeightOf
theorem dX5_divisor_0 : decode cX5_divisor 0 = .ok (.aload_n 0, 1) := by decide +kernel
theorem dX5_divisor_1 : decode cX5_divisor 1 = .ok (.getfield 19, 3) := by decide +kernel
theorem dX5_divisor_4 : decode cX5_divisor 4 = .ok (.getfield 111, 3) := by decide +kernel
theorem dX5_divisor_7 : decode cX5_divisor 7 = .ok (.ifCond .eq 7, 3) := by decide +kernel
theorem dX5_divisor_10 : decode cX5_divisor 10 = .ok (.lconst 1, 1) := by decide +kernel
theorem dX5_divisor_11 : decode cX5_divisor 11 = .ok (.goto 21, 3) := by decide +kernel
theorem dX5_divisor_14 : decode cX5_divisor 14 = .ok (.aload_n 0, 1) := by decide +kernel
theorem dX5_divisor_15 : decode cX5_divisor 15 = .ok (.getfield 12, 3) := by decide +kernel
theorem dX5_divisor_18 : decode cX5_divisor 18 = .ok (.getfield 90, 3) := by decide +kernel
theorem dX5_divisor_21 : decode cX5_divisor 21 = .ok (.aload_n 0, 1) := by decide +kernel
theorem dX5_divisor_22 : decode cX5_divisor 22 = .ok (.getfield 19, 3) := by decide +kernel
theorem dX5_divisor_25 : decode cX5_divisor 25 = .ok (.getfield 119, 3) := by decide +kernel
theorem dX5_divisor_28 : decode cX5_divisor 28 = .ok (.isub, 1) := by decide +kernel
theorem dX5_divisor_29 : decode cX5_divisor 29 = .ok (.invokestatic 166, 3) := by decide +kernel
theorem dX5_divisor_32 : decode cX5_divisor 32 = .ok (.lreturn, 1) := by decide +kernel
set_option maxRecDepth 20000 in
theorem ggX5_states_X4_grow : GoodIn wsX5_states wsX4_grow := goodIn_r _ [9, 10, 11, 12, 13, 14, 15, 16, 17, 18, 19, 20, 21, 8, 22, 23, 24, 25, 26, 27, 28, 29, 30, 31, 32, 33, 34, 35, 36, 37, 38, 39, 40, 41, 42, 43, 44, 45, 46, 47, 48, 49, 50, 51, 52, 53, 54, 55, 56, 57, 58, 59, 60, 61, 62, 63, 64, 65, 66, 67, 68, 69, 70, 71, 72, 73, 74, 75, 76, 77, 78, 79, 80, 81, 82, 83, 84, 85, 86, 87, 88, 89, 90, 91, 92, 93, 94, 95, 96, 97, 98, 99, 100, 101, 102, 103, 104, 105, 106, 107, 108, 109, 110, 111, 112, 113, 114, 115, 116, 117, 118, 119, 120, 121, 122, 123, 124, 125, 126, 127, 128, 129, 130, 131, 132, 133, 134, 135, 136, 137, 138, 139, 140, 141, 142, 143, 144, 145, 160, 161, 162, 163, 164, 165, 166, 167, 151, 152, 153, 154, 155, 156, 157, 158, 159, 168, 169, 170, 171, 172, 173, 174, 175, 176, 177, 178, 179, 180, 181, 182, 183, 184, 185, 186, 187, 188, 189] (by decide +kernel) (by decide +kernel)
set_option maxRecDepth 20000 in
theorem gX5_states_X4_grow : GoodIn wsX5_states (wsV RX5 154 RX4 yX4_grow wsX4_grow) := goodIn_app (goodIn_of _ (by decide +kernel)) ggX5_states_X4_grow
theorem dX5_states_0 : decode cX5_states 0 = .ok (.aload_n 0, 1) := by decide +kernel
theorem dX5_states_1 : decode cX5_states 1 = .ok (.getfield 29, 3) := by decide +kernel
theorem dX5_states_4 : decode cX5_states 4 = .ok (.aload_n 0, 1) := by decide +kernel
theorem dX5_states_5 : decode cX5_states 5 = .ok (.getfield 12, 3) := by decide +kernel
theorem dX5_states_8 : decode cX5_states 8 = .ok (.aload_n 0, 1) := by decide +kernel
theorem dX5_states_9 : decode cX5_states 9 = .ok (.getfield 19, 3) := by decide +kernel
theorem dX5_states_12 : decode cX5_states 12 = .ok (.invokevirtual 154, 3) := by decide +kernel
theorem dX5_states_15 : decode cX5_states 15 = .ok (.aload_n 0, 1) := by decide +kernel
theorem dX5_states_16 : decode cX5_states 16 = .ok (.getfield 29, 3) := by decide +kernel
theorem dX5_states_19 : decode cX5_states 19 = .ok (.getfield 170, 3) := by decide +kernel
theorem dX5_states_22 : decode cX5_states 22 = .ok (.ireturn, 1) := by decide +kernel
set_option maxRecDepth 20000 in
theorem ggX5_least_X4_grow : GoodIn wsX5_least wsX4_grow := goodIn_r _ [9, 10, 11, 12, 13, 14, 15, 16, 17, 18, 19, 20, 21, 8, 22, 23, 24, 25, 26, 27, 28, 29, 30, 31, 32, 33, 34, 35, 36, 37, 38, 39, 40, 41, 42, 43, 44, 45, 46, 47, 48, 49, 50, 51, 52, 53, 54, 55, 56, 57, 58, 59, 60, 61, 62, 63, 64, 65, 66, 67, 68, 69, 70, 71, 72, 73, 74, 75, 76, 77, 78, 79, 80, 81, 82, 83, 84, 85, 86, 87, 88, 89, 90, 91, 92, 93, 94, 95, 96, 97, 98, 99, 100, 101, 102, 103, 104, 105, 106, 107, 108, 109, 110, 111, 112, 113, 114, 115, 116, 117, 118, 119, 120, 121, 122, 123, 124, 125, 126, 127, 128, 129, 130, 131, 132, 133, 134, 135, 136, 137, 138, 139, 140, 141, 142, 143, 144, 145, 160, 161, 162, 163, 164, 165, 166, 167, 151, 152, 153, 154, 155, 156, 157, 158, 159, 168, 169, 170, 171, 172, 173, 174, 175, 176, 177, 178, 179, 180, 181, 182, 183, 184, 185, 186, 187, 188, 189] (by decide +kernel) (by decide +kernel)
set_option maxRecDepth 20000 in
theorem gX5_least_X4_grow : GoodIn wsX5_least (wsV RX5 154 RX4 yX4_grow wsX4_grow) := goodIn_app (goodIn_of _ (by decide +kernel)) ggX5_least_X4_grow
theorem dX5_least_0 : decode cX5_least 0 = .ok (.aload_n 0, 1) := by decide +kernel
theorem dX5_least_1 : decode cX5_least 1 = .ok (.getfield 29, 3) := by decide +kernel
theorem dX5_least_4 : decode cX5_least 4 = .ok (.aload_n 0, 1) := by decide +kernel
theorem dX5_least_5 : decode cX5_least 5 = .ok (.getfield 12, 3) := by decide +kernel
theorem dX5_least_8 : decode cX5_least 8 = .ok (.aload_n 0, 1) := by decide +kernel
theorem dX5_least_9 : decode cX5_least 9 = .ok (.getfield 19, 3) := by decide +kernel
theorem dX5_least_12 : decode cX5_least 12 = .ok (.invokevirtual 154, 3) := by decide +kernel
theorem dX5_least_15 : decode cX5_least 15 = .ok (.aload_n 0, 1) := by decide +kernel
theorem dX5_least_16 : decode cX5_least 16 = .ok (.getfield 29, 3) := by decide +kernel
theorem dX5_least_19 : decode cX5_least 19 = .ok (.getfield 173, 3) := by decide +kernel
theorem dX5_least_22 : decode cX5_least 22 = .ok (.ireturn, 1) := by decide +kernel
set_option maxRecDepth 20000 in
theorem ggX5_most_X4_grow : GoodIn wsX5_most wsX4_grow := goodIn_r _ [9, 10, 11, 12, 13, 14, 15, 16, 17, 18, 19, 20, 21, 8, 22, 23, 24, 25, 26, 27, 28, 29, 30, 31, 32, 33, 34, 35, 36, 37, 38, 39, 40, 41, 42, 43, 44, 45, 46, 47, 48, 49, 50, 51, 52, 53, 54, 55, 56, 57, 58, 59, 60, 61, 62, 63, 64, 65, 66, 67, 68, 69, 70, 71, 72, 73, 74, 75, 76, 77, 78, 79, 80, 81, 82, 83, 84, 85, 86, 87, 88, 89, 90, 91, 92, 93, 94, 95, 96, 97, 98, 99, 100, 101, 102, 103, 104, 105, 106, 107, 108, 109, 110, 111, 112, 113, 114, 115, 116, 117, 118, 119, 120, 121, 122, 123, 124, 125, 126, 127, 128, 129, 130, 131, 132, 133, 134, 135, 136, 137, 138, 139, 140, 141, 142, 143, 144, 145, 160, 161, 162, 163, 164, 165, 166, 167, 151, 152, 153, 154, 155, 156, 157, 158, 159, 168, 169, 170, 171, 172, 173, 174, 175, 176, 177, 178, 179, 180, 181, 182, 183, 184, 185, 186, 187, 188, 189] (by decide +kernel) (by decide +kernel)
set_option maxRecDepth 20000 in
theorem gX5_most_X4_grow : GoodIn wsX5_most (wsV RX5 154 RX4 yX4_grow wsX4_grow) := goodIn_app (goodIn_of _ (by decide +kernel)) ggX5_most_X4_grow
theorem dX5_most_0 : decode cX5_most 0 = .ok (.aload_n 0, 1) := by decide +kernel
theorem dX5_most_1 : decode cX5_most 1 = .ok (.getfield 29, 3) := by decide +kernel
theorem dX5_most_4 : decode cX5_most 4 = .ok (.aload_n 0, 1) := by decide +kernel
theorem dX5_most_5 : decode cX5_most 5 = .ok (.getfield 12, 3) := by decide +kernel
theorem dX5_most_8 : decode cX5_most 8 = .ok (.aload_n 0, 1) := by decide +kernel
theorem dX5_most_9 : decode cX5_most 9 = .ok (.getfield 19, 3) := by decide +kernel
theorem dX5_most_12 : decode cX5_most 12 = .ok (.invokevirtual 154, 3) := by decide +kernel
theorem dX5_most_15 : decode cX5_most 15 = .ok (.aload_n 0, 1) := by decide +kernel
theorem dX5_most_16 : decode cX5_most 16 = .ok (.getfield 29, 3) := by decide +kernel
theorem dX5_most_19 : decode cX5_most 19 = .ok (.getfield 176, 3) := by decide +kernel
theorem dX5_most_22 : decode cX5_most 22 = .ok (.ireturn, 1) := by decide +kernel
set_option maxRecDepth 20000 in
theorem ggX5_endsIn_X5_isWithin : GoodIn wsX5_endsIn wsX5_isWithin := goodIn_r _ [10] (by decide +kernel) (by decide +kernel)
set_option maxRecDepth 20000 in
theorem gX5_endsIn_X5_isWithin : GoodIn wsX5_endsIn (va_wsS RX5 48 yX5_isWithin wsX5_isWithin) := goodIn_app (goodIn_of _ (by decide +kernel)) ggX5_endsIn_X5_isWithin
set_option maxRecDepth 20000 in
theorem ggX5_endsIn_X4_grow : GoodIn wsX5_endsIn wsX4_grow := goodIn_r _ [15, 16, 17, 18, 19, 20, 21, 22, 23, 24, 25, 26, 27, 14, 28, 29, 30, 31, 32, 33, 34, 35, 36, 37, 38, 39, 40, 41, 42, 43, 44, 45, 46, 47, 48, 49, 50, 51, 52, 53, 54, 55, 56, 57, 58, 59, 60, 61, 62, 63, 64, 65, 66, 67, 68, 69, 70, 71, 72, 73, 74, 75, 76, 77, 78, 79, 80, 81, 82, 83, 84, 85, 86, 87, 88, 89, 90, 91, 92, 93, 94, 95, 96, 97, 98, 99, 100, 101, 102, 103, 104, 105, 106, 107, 108, 109, 110, 111, 112, 113, 114, 115, 116, 117, 118, 119, 120, 121, 122, 123, 124, 125, 126, 127, 128, 129, 130, 131, 132, 133, 134, 135, 136, 137, 138, 139, 140, 141, 142, 9, 143, 144, 145, 146, 147, 148, 149, 150, 171, 172, 173, 174, 175, 176, 177, 178, 179, 180, 181, 182, 183, 184, 185, 186, 187, 188, 189, 190, 191, 192, 193, 194, 195, 160, 161, 162, 163, 164, 165, 166, 167, 168, 169, 170, 196, 197, 198] (by decide +kernel) (by decide +kernel)
set_option maxRecDepth 20000 in
theorem gX5_endsIn_X4_grow : GoodIn wsX5_endsIn (wsV RX5 154 RX4 yX4_grow wsX4_grow) := goodIn_app (goodIn_of _ (by decide +kernel)) ggX5_endsIn_X4_grow
set_option maxRecDepth 20000 in
theorem ggX5_endsIn_X4_endSumOf : GoodIn wsX5_endsIn wsX4_endSumOf := goodIn_r _ [154, 29, 179, 180, 181, 182, 183, 184, 185, 186, 187] (by decide +kernel) (by decide +kernel)
set_option maxRecDepth 20000 in
theorem gX5_endsIn_X4_endSumOf : GoodIn wsX5_endsIn (wsV RX5 181 RX4 yX4_endSumOf wsX4_endSumOf) := goodIn_app (goodIn_of _ (by decide +kernel)) ggX5_endsIn_X4_endSumOf
theorem dX5_endsIn_0 : decode cX5_endsIn 0 = .ok (.iload_n 1, 1) := by decide +kernel
theorem dX5_endsIn_1 : decode cX5_endsIn 1 = .ok (.iconst 1, 1) := by decide +kernel
theorem dX5_endsIn_2 : decode cX5_endsIn 2 = .ok (.aload_n 0, 1) := by decide +kernel
theorem dX5_endsIn_3 : decode cX5_endsIn 3 = .ok (.getfield 12, 3) := by decide +kernel
theorem dX5_endsIn_6 : decode cX5_endsIn 6 = .ok (.getfield 90, 3) := by decide +kernel
theorem dX5_endsIn_9 : decode cX5_endsIn 9 = .ok (.invokestatic 48, 3) := by decide +kernel
theorem dX5_endsIn_12 : decode cX5_endsIn 12 = .ok (.ifCond .ne 13, 3) := by decide +kernel
theorem dX5_endsIn_15 : decode cX5_endsIn 15 = .ok (.new 52, 3) := by decide +kernel
theorem dX5_endsIn_18 : decode cX5_endsIn 18 = .ok (.dup, 1) := by decide +kernel
theorem dX5_endsIn_19 : decode cX5_endsIn 19 = .ok (.ldc 179, 2) := by decide +kernel
theorem dX5_endsIn_21 : decode cX5_endsIn 21 = .ok (.invokespecial 56, 3) := by decide +kernel
theorem dX5_endsIn_24 : decode cX5_endsIn 24 = .ok (.athrow, 1) := by decide +kernel
theorem dX5_endsIn_25 : decode cX5_endsIn 25 = .ok (.aload_n 0, 1) := by decide +kernel
theorem dX5_endsIn_26 : decode cX5_endsIn 26 = .ok (.getfield 29, 3) := by decide +kernel
theorem dX5_endsIn_29 : decode cX5_endsIn 29 = .ok (.aload_n 0, 1) := by decide +kernel
theorem dX5_endsIn_30 : decode cX5_endsIn 30 = .ok (.getfield 12, 3) := by decide +kernel
theorem dX5_endsIn_33 : decode cX5_endsIn 33 = .ok (.aload_n 0, 1) := by decide +kernel
theorem dX5_endsIn_34 : decode cX5_endsIn 34 = .ok (.getfield 19, 3) := by decide +kernel
theorem dX5_endsIn_37 : decode cX5_endsIn 37 = .ok (.invokevirtual 154, 3) := by decide +kernel
theorem dX5_endsIn_40 : decode cX5_endsIn 40 = .ok (.aload_n 0, 1) := by decide +kernel
theorem dX5_endsIn_41 : decode cX5_endsIn 41 = .ok (.getfield 29, 3) := by decide +kernel
theorem dX5_endsIn_44 : decode cX5_endsIn 44 = .ok (.iload_n 1, 1) := by decide +kernel
theorem dX5_endsIn_45 : decode cX5_endsIn 45 = .ok (.invokevirtual 181, 3) := by decide +kernel
theorem dX5_endsIn_48 : decode cX5_endsIn 48 = .ok (.lreturn, 1) := by decide +kernel
set_option maxRecDepth 20000 in
theorem ggX5_knocks_X4_grow : GoodIn wsX5_knocks wsX4_grow := goodIn_r _ [9, 10, 11, 12, 13, 14, 15, 16, 17, 18, 19, 20, 21, 8, 22, 23, 24, 25, 26, 27, 28, 29, 30, 31, 32, 33, 34, 35, 36, 37, 38, 39, 40, 41, 42, 43, 44, 45, 46, 47, 48, 49, 50, 51, 52, 53, 54, 55, 56, 57, 58, 59, 60, 61, 62, 63, 64, 65, 66, 67, 68, 69, 70, 71, 72, 73, 74, 75, 76, 77, 78, 79, 80, 81, 82, 83, 84, 85, 86, 87, 88, 89, 90, 91, 92, 93, 94, 95, 96, 97, 98, 99, 100, 101, 102, 103, 104, 105, 106, 107, 108, 109, 110, 111, 112, 113, 114, 115, 116, 117, 118, 119, 120, 121, 122, 123, 124, 125, 126, 127, 128, 129, 130, 131, 132, 133, 134, 135, 136, 137, 138, 139, 140, 141, 142, 143, 144, 145, 160, 161, 162, 163, 164, 165, 166, 167, 151, 152, 153, 154, 155, 156, 157, 158, 159, 168, 169, 170, 171, 172, 173, 174, 175, 176, 177, 178, 179, 180, 181, 182, 183, 184, 185, 186, 187, 188, 189] (by decide +kernel) (by decide +kernel)
set_option maxRecDepth 20000 in
theorem gX5_knocks_X4_grow : GoodIn wsX5_knocks (wsV RX5 154 RX4 yX4_grow wsX4_grow) := goodIn_app (goodIn_of _ (by decide +kernel)) ggX5_knocks_X4_grow
theorem dX5_knocks_0 : decode cX5_knocks 0 = .ok (.aload_n 0, 1) := by decide +kernel
theorem dX5_knocks_1 : decode cX5_knocks 1 = .ok (.getfield 29, 3) := by decide +kernel
theorem dX5_knocks_4 : decode cX5_knocks 4 = .ok (.aload_n 0, 1) := by decide +kernel
theorem dX5_knocks_5 : decode cX5_knocks 5 = .ok (.getfield 12, 3) := by decide +kernel
theorem dX5_knocks_8 : decode cX5_knocks 8 = .ok (.aload_n 0, 1) := by decide +kernel
theorem dX5_knocks_9 : decode cX5_knocks 9 = .ok (.getfield 19, 3) := by decide +kernel
theorem dX5_knocks_12 : decode cX5_knocks 12 = .ok (.invokevirtual 154, 3) := by decide +kernel
theorem dX5_knocks_15 : decode cX5_knocks 15 = .ok (.aload_n 0, 1) := by decide +kernel
theorem dX5_knocks_16 : decode cX5_knocks 16 = .ok (.getfield 29, 3) := by decide +kernel
theorem dX5_knocks_19 : decode cX5_knocks 19 = .ok (.getfield 184, 3) := by decide +kernel
theorem dX5_knocks_22 : decode cX5_knocks 22 = .ok (.lreturn, 1) := by decide +kernel
set_option maxRecDepth 20000 in
theorem ggX5_worthOfRow_X3_copy : GoodIn wsX5_worthOfRow wsX3_copy := goodIn_r _ [11, 12, 13, 14, 15, 16, 17, 18, 19, 80, 81, 82, 83, 84, 85, 86, 87] (by decide +kernel) (by decide +kernel)
set_option maxRecDepth 20000 in
theorem gX5_worthOfRow_X3_copy : GoodIn wsX5_worthOfRow (wsV RX5 187 RX3 yX3_copy wsX3_copy) := goodIn_app (goodIn_of _ (by decide +kernel)) ggX5_worthOfRow_X3_copy
set_option maxRecDepth 20000 in
theorem ggX5_worthOfRow_X5_isUpAt : GoodIn wsX5_worthOfRow wsX5_isUpAt := goodIn_r _ [23] (by decide +kernel) (by decide +kernel)
set_option maxRecDepth 20000 in
theorem gX5_worthOfRow_X5_isUpAt : GoodIn wsX5_worthOfRow (va_wsS RX5 131 yX5_isUpAt wsX5_isUpAt) := goodIn_app (goodIn_of _ (by decide +kernel)) ggX5_worthOfRow_X5_isUpAt
set_option maxRecDepth 20000 in
theorem ggX5_worthOfRow_X2_weightOf : GoodIn wsX5_worthOfRow wsX2_weightOf := goodIn_r _ [28, 29, 88, 89, 90, 91, 92, 93, 94, 95, 96, 97, 98] (by decide +kernel) (by decide +kernel)
set_option maxRecDepth 20000 in
theorem gX5_worthOfRow_X2_weightOf : GoodIn wsX5_worthOfRow (wsV RX5 193 RX2 yX2_weightOf wsX2_weightOf) := goodIn_app (goodIn_of _ (by decide +kernel)) ggX5_worthOfRow_X2_weightOf
set_option maxRecDepth 20000 in
theorem ggX5_worthOfRow_X3_move : GoodIn wsX5_worthOfRow wsX3_move := goodIn_r _ [33, 12, 34, 13, 35, 14, 36, 37, 38, 39, 16, 18, 40, 17, 19, 41, 42, 43, 44, 45, 46, 47, 48, 49, 50, 51, 52, 53, 54, 10, 55, 56, 57, 58, 59, 60, 61, 62, 63, 64, 65, 66, 67, 68, 15, 69, 70, 71, 72, 73, 74, 80, 81, 82, 83, 84, 85, 86, 87, 88, 89, 90, 91, 92, 93, 94, 95, 96, 97, 98, 99, 100, 101] (by decide +kernel) (by decide +kernel)
set_option maxRecDepth 20000 in
theorem gX5_worthOfRow_X3_move : GoodIn wsX5_worthOfRow (wsV RX5 122 RX3 yX3_move wsX3_move) := goodIn_app (goodIn_of _ (by decide +kernel)) ggX5_worthOfRow_X3_move
theorem dX5_worthOfRow_0 : decode cX5_worthOfRow 0 = .ok (.aload_n 0, 1) := by decide +kernel
theorem dX5_worthOfRow_1 : decode cX5_worthOfRow 1 = .ok (.getfield 23, 3) := by decide +kernel
theorem dX5_worthOfRow_4 : decode cX5_worthOfRow 4 = .ok (.aload_n 0, 1) := by decide +kernel
theorem dX5_worthOfRow_5 : decode cX5_worthOfRow 5 = .ok (.getfield 19, 3) := by decide +kernel
theorem dX5_worthOfRow_8 : decode cX5_worthOfRow 8 = .ok (.invokevirtual 187, 3) := by decide +kernel
theorem dX5_worthOfRow_11 : decode cX5_worthOfRow 11 = .ok (.lconst 1, 1) := by decide +kernel
theorem dX5_worthOfRow_12 : decode cX5_worthOfRow 12 = .ok (.lstore_n 3, 1) := by decide +kernel
theorem dX5_worthOfRow_13 : decode cX5_worthOfRow 13 = .ok (.iconst 0, 1) := by decide +kernel
theorem dX5_worthOfRow_14 : decode cX5_worthOfRow 14 = .ok (.istore 5, 2) := by decide +kernel
theorem dX5_worthOfRow_16 : decode cX5_worthOfRow 16 = .ok (.iload 5, 2) := by decide +kernel
theorem dX5_worthOfRow_18 : decode cX5_worthOfRow 18 = .ok (.iload_n 2, 1) := by decide +kernel
theorem dX5_worthOfRow_19 : decode cX5_worthOfRow 19 = .ok (.if_icmp .ge 79, 3) := by decide +kernel
theorem dX5_worthOfRow_22 : decode cX5_worthOfRow 22 = .ok (.iload_n 1, 1) := by decide +kernel
theorem dX5_worthOfRow_23 : decode cX5_worthOfRow 23 = .ok (.iload 5, 2) := by decide +kernel
theorem dX5_worthOfRow_25 : decode cX5_worthOfRow 25 = .ok (.invokestatic 131, 3) := by decide +kernel
theorem dX5_worthOfRow_28 : decode cX5_worthOfRow 28 = .ok (.istore 6, 2) := by decide +kernel
theorem dX5_worthOfRow_30 : decode cX5_worthOfRow 30 = .ok (.aload_n 0, 1) := by decide +kernel
theorem dX5_worthOfRow_31 : decode cX5_worthOfRow 31 = .ok (.getfield 23, 3) := by decide +kernel
theorem dX5_worthOfRow_34 : decode cX5_worthOfRow 34 = .ok (.getfield 111, 3) := by decide +kernel
theorem dX5_worthOfRow_37 : decode cX5_worthOfRow 37 = .ok (.ifCond .eq 10, 3) := by decide +kernel
theorem dX5_worthOfRow_40 : decode cX5_worthOfRow 40 = .ok (.iload 6, 2) := by decide +kernel
theorem dX5_worthOfRow_42 : decode cX5_worthOfRow 42 = .ok (.ifCond .eq 5, 3) := by decide +kernel
theorem dX5_worthOfRow_45 : decode cX5_worthOfRow 45 = .ok (.lconst 0, 1) := by decide +kernel
theorem dX5_worthOfRow_46 : decode cX5_worthOfRow 46 = .ok (.lreturn, 1) := by decide +kernel
theorem dX5_worthOfRow_47 : decode cX5_worthOfRow 47 = .ok (.aload_n 0, 1) := by decide +kernel
theorem dX5_worthOfRow_48 : decode cX5_worthOfRow 48 = .ok (.getfield 23, 3) := by decide +kernel
theorem dX5_worthOfRow_51 : decode cX5_worthOfRow 51 = .ok (.getfield 111, 3) := by decide +kernel
theorem dX5_worthOfRow_54 : decode cX5_worthOfRow 54 = .ok (.ifCond .eq 12, 3) := by decide +kernel
theorem dX5_worthOfRow_57 : decode cX5_worthOfRow 57 = .ok (.lload_n 3, 1) := by decide +kernel
theorem dX5_worthOfRow_58 : decode cX5_worthOfRow 58 = .ok (.ldc2_w 191, 3) := by decide +kernel
theorem dX5_worthOfRow_61 : decode cX5_worthOfRow 61 = .ok (.lmul, 1) := by decide +kernel
theorem dX5_worthOfRow_62 : decode cX5_worthOfRow 62 = .ok (.lstore_n 3, 1) := by decide +kernel
theorem dX5_worthOfRow_63 : decode cX5_worthOfRow 63 = .ok (.goto 29, 3) := by decide +kernel
theorem dX5_worthOfRow_66 : decode cX5_worthOfRow 66 = .ok (.lload_n 3, 1) := by decide +kernel
theorem dX5_worthOfRow_67 : decode cX5_worthOfRow 67 = .ok (.aload_n 0, 1) := by decide +kernel
theorem dX5_worthOfRow_68 : decode cX5_worthOfRow 68 = .ok (.getfield 12, 3) := by decide +kernel
theorem dX5_worthOfRow_71 : decode cX5_worthOfRow 71 = .ok (.iload 6, 2) := by decide +kernel
theorem dX5_worthOfRow_73 : decode cX5_worthOfRow 73 = .ok (.invokevirtual 193, 3) := by decide +kernel
theorem dX5_worthOfRow_76 : decode cX5_worthOfRow 76 = .ok (.i2l, 1) := by decide +kernel
theorem dX5_worthOfRow_77 : decode cX5_worthOfRow 77 = .ok (.lmul, 1) := by decide +kernel
theorem dX5_worthOfRow_78 : decode cX5_worthOfRow 78 = .ok (.lstore_n 3, 1) := by decide +kernel
theorem dX5_worthOfRow_79 : decode cX5_worthOfRow 79 = .ok (.aload_n 0, 1) := by decide +kernel
theorem dX5_worthOfRow_80 : decode cX5_worthOfRow 80 = .ok (.getfield 23, 3) := by decide +kernel
theorem dX5_worthOfRow_83 : decode cX5_worthOfRow 83 = .ok (.aload_n 0, 1) := by decide +kernel
theorem dX5_worthOfRow_84 : decode cX5_worthOfRow 84 = .ok (.getfield 12, 3) := by decide +kernel
theorem dX5_worthOfRow_87 : decode cX5_worthOfRow 87 = .ok (.iload 6, 2) := by decide +kernel
theorem dX5_worthOfRow_89 : decode cX5_worthOfRow 89 = .ok (.invokevirtual 122, 3) := by decide +kernel
theorem dX5_worthOfRow_92 : decode cX5_worthOfRow 92 = .ok (.iinc 5 1, 3) := by decide +kernel
theorem dX5_worthOfRow_95 : decode cX5_worthOfRow 95 = .ok (.goto (-79), 3) := by decide +kernel
theorem dX5_worthOfRow_98 : decode cX5_worthOfRow 98 = .ok (.lload_n 3, 1) := by decide +kernel
theorem dX5_worthOfRow_99 : decode cX5_worthOfRow 99 = .ok (.aload_n 0, 1) := by decide +kernel
theorem dX5_worthOfRow_100 : decode cX5_worthOfRow 100 = .ok (.getfield 23, 3) := by decide +kernel
theorem dX5_worthOfRow_103 : decode cX5_worthOfRow 103 = .ok (.getfield 151, 3) := by decide +kernel
theorem dX5_worthOfRow_106 : decode cX5_worthOfRow 106 = .ok (.aload_n 0, 1) := by decide +kernel
theorem dX5_worthOfRow_107 : decode cX5_worthOfRow 107 = .ok (.getfield 19, 3) := by decide +kernel
theorem dX5_worthOfRow_110 : decode cX5_worthOfRow 110 = .ok (.getfield 151, 3) := by decide +kernel
theorem dX5_worthOfRow_113 : decode cX5_worthOfRow 113 = .ok (.isub, 1) := by decide +kernel
theorem dX5_worthOfRow_114 : decode cX5_worthOfRow 114 = .ok (.i2l, 1) := by decide +kernel
theorem dX5_worthOfRow_115 : decode cX5_worthOfRow 115 = .ok (.lmul, 1) := by decide +kernel
theorem dX5_worthOfRow_116 : decode cX5_worthOfRow 116 = .ok (.lreturn, 1) := by decide +kernel
theorem dX5_isUpAt_0 : decode cX5_isUpAt 0 = .ok (.iload_n 0, 1) := by decide +kernel
theorem dX5_isUpAt_1 : decode cX5_isUpAt 1 = .ok (.iload_n 1, 1) := by decide +kernel
theorem dX5_isUpAt_2 : decode cX5_isUpAt 2 = .ok (.ishr, 1) := by decide +kernel
theorem dX5_isUpAt_3 : decode cX5_isUpAt 3 = .ok (.iconst 1, 1) := by decide +kernel
theorem dX5_isUpAt_4 : decode cX5_isUpAt 4 = .ok (.iand, 1) := by decide +kernel
theorem dX5_isUpAt_5 : decode cX5_isUpAt 5 = .ok (.iconst 1, 1) := by decide +kernel
theorem dX5_isUpAt_6 : decode cX5_isUpAt 6 = .ok (.if_icmp .ne 7, 3) := by decide +kernel
theorem dX5_isUpAt_9 : decode cX5_isUpAt 9 = .ok (.iconst 1, 1) := by decide +kernel
theorem dX5_isUpAt_10 : decode cX5_isUpAt 10 = .ok (.goto 4, 3) := by decide +kernel
theorem dX5_isUpAt_13 : decode cX5_isUpAt 13 = .ok (.iconst 0, 1) := by decide +kernel
theorem dX5_isUpAt_14 : decode cX5_isUpAt 14 = .ok (.ireturn, 1) := by decide +kernel
theorem dX5_isAsset_0 : decode cX5_isAsset 0 = .ok (.iload_n 0, 1) := by decide +kernel
theorem dX5_isAsset_1 : decode cX5_isAsset 1 = .ok (.ifCond .eq 8, 3) := by decide +kernel
theorem dX5_isAsset_4 : decode cX5_isAsset 4 = .ok (.iload_n 0, 1) := by decide +kernel
theorem dX5_isAsset_5 : decode cX5_isAsset 5 = .ok (.iconst 1, 1) := by decide +kernel
theorem dX5_isAsset_6 : decode cX5_isAsset 6 = .ok (.if_icmp .ne 7, 3) := by decide +kernel
theorem dX5_isAsset_9 : decode cX5_isAsset 9 = .ok (.iconst 1, 1) := by decide +kernel
theorem dX5_isAsset_10 : decode cX5_isAsset 10 = .ok (.goto 4, 3) := by decide +kernel
theorem dX5_isAsset_13 : decode cX5_isAsset 13 = .ok (.iconst 0, 1) := by decide +kernel
theorem dX5_isAsset_14 : decode cX5_isAsset 14 = .ok (.ireturn, 1) := by decide +kernel
theorem dX5_isWithin_0 : decode cX5_isWithin 0 = .ok (.iload_n 0, 1) := by decide +kernel
theorem dX5_isWithin_1 : decode cX5_isWithin 1 = .ok (.iload_n 1, 1) := by decide +kernel
theorem dX5_isWithin_2 : decode cX5_isWithin 2 = .ok (.if_icmp .lt 12, 3) := by decide +kernel
theorem dX5_isWithin_5 : decode cX5_isWithin 5 = .ok (.iload_n 0, 1) := by decide +kernel
theorem dX5_isWithin_6 : decode cX5_isWithin 6 = .ok (.iload_n 2, 1) := by decide +kernel
theorem dX5_isWithin_7 : decode cX5_isWithin 7 = .ok (.if_icmp .gt 7, 3) := by decide +kernel
theorem dX5_isWithin_10 : decode cX5_isWithin 10 = .ok (.iconst 1, 1) := by decide +kernel
theorem dX5_isWithin_11 : decode cX5_isWithin 11 = .ok (.goto 4, 3) := by decide +kernel
theorem dX5_isWithin_14 : decode cX5_isWithin 14 = .ok (.iconst 0, 1) := by decide +kernel
theorem dX5_isWithin_15 : decode cX5_isWithin 15 = .ok (.ireturn, 1) := by decide +kernel
theorem dX5_wholeWeightOf_0 : decode cX5_wholeWeightOf 0 = .ok (.lconst 1, 1) := by decide +kernel
theorem dX5_wholeWeightOf_1 : decode cX5_wholeWeightOf 1 = .ok (.lstore_n 1, 1) := by decide +kernel
theorem dX5_wholeWeightOf_2 : decode cX5_wholeWeightOf 2 = .ok (.iconst 0, 1) := by decide +kernel
theorem dX5_wholeWeightOf_3 : decode cX5_wholeWeightOf 3 = .ok (.istore_n 3, 1) := by decide +kernel
theorem dX5_wholeWeightOf_4 : decode cX5_wholeWeightOf 4 = .ok (.iload_n 3, 1) := by decide +kernel
theorem dX5_wholeWeightOf_5 : decode cX5_wholeWeightOf 5 = .ok (.iload_n 0, 1) := by decide +kernel
theorem dX5_wholeWeightOf_6 : decode cX5_wholeWeightOf 6 = .ok (.if_icmp .ge 21, 3) := by decide +kernel
theorem dX5_wholeWeightOf_9 : decode cX5_wholeWeightOf 9 = .ok (.iload_n 3, 1) := by decide +kernel
theorem dX5_wholeWeightOf_10 : decode cX5_wholeWeightOf 10 = .ok (.bipush 8, 2) := by decide +kernel
theorem dX5_wholeWeightOf_12 : decode cX5_wholeWeightOf 12 = .ok (.if_icmp .ge 15, 3) := by decide +kernel
theorem dX5_wholeWeightOf_15 : decode cX5_wholeWeightOf 15 = .ok (.lload_n 1, 1) := by decide +kernel
theorem dX5_wholeWeightOf_16 : decode cX5_wholeWeightOf 16 = .ok (.ldc2_w 191, 3) := by decide +kernel
theorem dX5_wholeWeightOf_19 : decode cX5_wholeWeightOf 19 = .ok (.lmul, 1) := by decide +kernel
theorem dX5_wholeWeightOf_20 : decode cX5_wholeWeightOf 20 = .ok (.lstore_n 1, 1) := by decide +kernel
theorem dX5_wholeWeightOf_21 : decode cX5_wholeWeightOf 21 = .ok (.iinc 3 1, 3) := by decide +kernel
theorem dX5_wholeWeightOf_24 : decode cX5_wholeWeightOf 24 = .ok (.goto (-20), 3) := by decide +kernel
theorem dX5_wholeWeightOf_27 : decode cX5_wholeWeightOf 27 = .ok (.lload_n 1, 1) := by decide +kernel
theorem dX5_wholeWeightOf_28 : decode cX5_wholeWeightOf 28 = .ok (.lreturn, 1) := by decide +kernel
theorem dX6_init_0 : decode cX6_init 0 = .ok (.aload_n 0, 1) := by decide +kernel
theorem dX6_init_1 : decode cX6_init 1 = .ok (.invokespecial 1, 3) := by decide +kernel
theorem dX6_init_4 : decode cX6_init 4 = .ok (.aload_n 0, 1) := by decide +kernel
theorem dX6_init_5 : decode cX6_init 5 = .ok (.iconst 2, 1) := by decide +kernel
theorem dX6_init_6 : decode cX6_init 6 = .ok (.newarray .int, 2) := by decide +kernel
theorem dX6_init_8 : decode cX6_init 8 = .ok (.putfield 7, 3) := by decide +kernel
theorem dX6_init_11 : decode cX6_init 11 = .ok (.aload_n 0, 1) := by decide +kernel
theorem dX6_init_12 : decode cX6_init 12 = .ok (.iconst 2, 1) := by decide +kernel
theorem dX6_init_13 : decode cX6_init 13 = .ok (.newarray .int, 2) := by decide +kernel
theorem dX6_init_15 : decode cX6_init 15 = .ok (.putfield 13, 3) := by decide +kernel
theorem dX6_init_18 : decode cX6_init 18 = .ok (.aload_n 0, 1) := by decide +kernel
theorem dX6_init_19 : decode cX6_init 19 = .ok (.iconst 2, 1) := by decide +kernel
theorem dX6_init_20 : decode cX6_init 20 = .ok (.newarray .int, 2) := by decide +kernel
theorem dX6_init_22 : decode cX6_init 22 = .ok (.putfield 16, 3) := by decide +kernel
theorem dX6_init_25 : decode cX6_init 25 = .ok (.aload_n 0, 1) := by decide +kernel
theorem dX6_init_26 : decode cX6_init 26 = .ok (.iconst 5, 1) := by decide +kernel
theorem dX6_init_27 : decode cX6_init 27 = .ok (.putfield 19, 3) := by decide +kernel
theorem dX6_init_30 : decode cX6_init 30 = .ok (.aload_n 0, 1) := by decide +kernel
theorem dX6_init_31 : decode cX6_init 31 = .ok (.iconst 4, 1) := by decide +kernel
theorem dX6_init_32 : decode cX6_init 32 = .ok (.putfield 23, 3) := by decide +kernel
theorem dX6_init_35 : decode cX6_init 35 = .ok (.aload_n 0, 1) := by decide +kernel
theorem dX6_init_36 : decode cX6_init 36 = .ok (.bipush 60, 2) := by decide +kernel
theorem dX6_init_38 : decode cX6_init 38 = .ok (.putfield 26, 3) := by decide +kernel
theorem dX6_init_41 : decode cX6_init 41 = .ok (.aload_n 0, 1) := by decide +kernel
theorem dX6_init_42 : decode cX6_init 42 = .ok (.bipush 80, 2) := by decide +kernel
theorem dX6_init_44 : decode cX6_init 44 = .ok (.putfield 29, 3) := by decide +kernel
theorem dX6_init_47 : decode cX6_init 47 = .ok (.aload_n 0, 1) := by decide +kernel
theorem dX6_init_48 : decode cX6_init 48 = .ok (.bipush 100, 2) := by decide +kernel
theorem dX6_init_50 : decode cX6_init 50 = .ok (.putfield 32, 3) := by decide +kernel
theorem dX6_init_53 : decode cX6_init 53 = .ok (.aload_n 0, 1) := by decide +kernel
theorem dX6_init_54 : decode cX6_init 54 = .ok (.bipush 50, 2) := by decide +kernel
theorem dX6_init_56 : decode cX6_init 56 = .ok (.putfield 35, 3) := by decide +kernel
theorem dX6_init_59 : decode cX6_init 59 = .ok (.aload_n 0, 1) := by decide +kernel
theorem dX6_init_60 : decode cX6_init 60 = .ok (.bipush 8, 2) := by decide +kernel
theorem dX6_init_62 : decode cX6_init 62 = .ok (.newarray .boolean, 2) := by decide +kernel
theorem dX6_init_64 : decode cX6_init 64 = .ok (.putfield 38, 3) := by decide +kernel
theorem dX6_init_67 : decode cX6_init 67 = .ok (.aload_n 0, 1) := by decide +kernel
theorem dX6_init_68 : decode cX6_init 68 = .ok (.iconst 2, 1) := by decide +kernel
theorem dX6_init_69 : decode cX6_init 69 = .ok (.newarray .int, 2) := by decide +kernel
theorem dX6_init_71 : decode cX6_init 71 = .ok (.putfield 42, 3) := by decide +kernel
theorem dX6_init_74 : decode cX6_init 74 = .ok (.aload_n 0, 1) := by decide +kernel
theorem dX6_init_75 : decode cX6_init 75 = .ok (.sipush 256, 3) := by decide +kernel
theorem dX6_init_78 : decode cX6_init 78 = .ok (.newarray .long, 2) := by decide +kernel
theorem dX6_init_80 : decode cX6_init 80 = .ok (.putfield 45, 3) := by decide +kernel
theorem dX6_init_83 : decode cX6_init 83 = .ok (.iconst 0, 1) := by decide +kernel
theorem dX6_init_84 : decode cX6_init 84 = .ok (.istore_n 1, 1) := by decide +kernel
theorem dX6_init_85 : decode cX6_init 85 = .ok (.iload_n 1, 1) := by decide +kernel
theorem dX6_init_86 : decode cX6_init 86 = .ok (.iconst 2, 1) := by decide +kernel
theorem dX6_init_87 : decode cX6_init 87 = .ok (.if_icmp .ge 34, 3) := by decide +kernel
theorem dX6_init_90 : decode cX6_init 90 = .ok (.aload_n 0, 1) := by decide +kernel
theorem dX6_init_91 : decode cX6_init 91 = .ok (.getfield 7, 3) := by decide +kernel
theorem dX6_init_94 : decode cX6_init 94 = .ok (.iload_n 1, 1) := by decide +kernel
theorem dX6_init_95 : decode cX6_init 95 = .ok (.sipush 500, 3) := by decide +kernel
theorem dX6_init_98 : decode cX6_init 98 = .ok (.iastore, 1) := by decide +kernel
theorem dX6_init_99 : decode cX6_init 99 = .ok (.aload_n 0, 1) := by decide +kernel
theorem dX6_init_100 : decode cX6_init 100 = .ok (.getfield 13, 3) := by decide +kernel
theorem dX6_init_103 : decode cX6_init 103 = .ok (.iload_n 1, 1) := by decide +kernel
theorem dX6_init_104 : decode cX6_init 104 = .ok (.bipush 50, 2) := by decide +kernel
theorem dX6_init_106 : decode cX6_init 106 = .ok (.iastore, 1) := by decide +kernel
theorem dX6_init_107 : decode cX6_init 107 = .ok (.aload_n 0, 1) := by decide +kernel
theorem dX6_init_108 : decode cX6_init 108 = .ok (.getfield 16, 3) := by decide +kernel
theorem dX6_init_111 : decode cX6_init 111 = .ok (.iload_n 1, 1) := by decide +kernel
theorem dX6_init_112 : decode cX6_init 112 = .ok (.bipush 40, 2) := by decide +kernel
theorem dX6_init_114 : decode cX6_init 114 = .ok (.iastore, 1) := by decide +kernel
theorem dX6_init_115 : decode cX6_init 115 = .ok (.iinc 1 1, 3) := by decide +kernel
theorem dX6_init_118 : decode cX6_init 118 = .ok (.goto (-33), 3) := by decide +kernel
theorem dX6_init_121 : decode cX6_init 121 = .ok (.return_, 1) := by decide +kernel
theorem dX6_thrown_0 : decode cX6_thrown 0 = .ok (.aload_n 0, 1) := by decide +kernel
theorem dX6_thrown_1 : decode cX6_thrown 1 = .ok (.getfield 49, 3) := by decide +kernel
theorem dX6_thrown_4 : decode cX6_thrown 4 = .ok (.ireturn, 1) := by decide +kernel
theorem dX6_goes_0 : decode cX6_goes 0 = .ok (.aload_n 0, 1) := by decide +kernel
theorem dX6_goes_1 : decode cX6_goes 1 = .ok (.iload_n 1, 1) := by decide +kernel
theorem dX6_goes_2 : decode cX6_goes 2 = .ok (.putfield 49, 3) := by decide +kernel
theorem dX6_goes_5 : decode cX6_goes 5 = .ok (.iload_n 1, 1) := by decide +kernel
theorem dX6_goes_6 : decode cX6_goes 6 = .ok (.ifCond .ne 7, 3) := by decide +kernel
theorem dX6_goes_9 : decode cX6_goes 9 = .ok (.iconst 1, 1) := by decide +kernel
theorem dX6_goes_10 : decode cX6_goes 10 = .ok (.goto 4, 3) := by decide +kernel
theorem dX6_goes_13 : decode cX6_goes 13 = .ok (.iconst 0, 1) := by decide +kernel
theorem dX6_goes_14 : decode cX6_goes 14 = .ok (.ireturn, 1) := by decide +kernel
theorem dX6_isIn_0 : decode cX6_isIn 0 = .ok (.iload_n 0, 1) := by decide +kernel
theorem dX6_isIn_1 : decode cX6_isIn 1 = .ok (.iload_n 1, 1) := by decide +kernel
theorem dX6_isIn_2 : decode cX6_isIn 2 = .ok (.if_icmp .lt 12, 3) := by decide +kernel
theorem dX6_isIn_5 : decode cX6_isIn 5 = .ok (.iload_n 0, 1) := by decide +kernel
theorem dX6_isIn_6 : decode cX6_isIn 6 = .ok (.iload_n 2, 1) := by decide +kernel
theorem dX6_isIn_7 : decode cX6_isIn 7 = .ok (.if_icmp .gt 7, 3) := by decide +kernel
theorem dX6_isIn_10 : decode cX6_isIn 10 = .ok (.iconst 1, 1) := by decide +kernel
theorem dX6_isIn_11 : decode cX6_isIn 11 = .ok (.goto 4, 3) := by decide +kernel
theorem dX6_isIn_14 : decode cX6_isIn 14 = .ok (.iconst 0, 1) := by decide +kernel
theorem dX6_isIn_15 : decode cX6_isIn 15 = .ok (.ireturn, 1) := by decide +kernel
set_option maxRecDepth 20000 in
theorem ggX6_setAsset_X6_isIn : GoodIn wsX6_setAsset wsX6_isIn := goodIn_r _ [8] (by decide +kernel) (by decide +kernel)
set_option maxRecDepth 20000 in
theorem gX6_setAsset_X6_isIn : GoodIn wsX6_setAsset (va_wsS RX6 52 yX6_isIn wsX6_isIn) := goodIn_app (goodIn_of _ (by decide +kernel)) ggX6_setAsset_X6_isIn
set_option maxRecDepth 20000 in
theorem ggX6_setAsset_X6_goes : GoodIn wsX6_setAsset wsX6_goes := goodIn_r _ [12, 13, 14, 15, 16, 17, 18, 19, 20, 21, 22, 23, 24, 25, 26, 27, 28, 29, 30, 31, 32, 33, 34, 35] (by decide +kernel) (by decide +kernel)
set_option maxRecDepth 20000 in
theorem gX6_setAsset_X6_goes : GoodIn wsX6_setAsset (wsV RX6 56 RX6 yX6_goes wsX6_goes) := goodIn_app (goodIn_of _ (by decide +kernel)) ggX6_setAsset_X6_goes
theorem dX6_setAsset_0 : decode cX6_setAsset 0 = .ok (.iload_n 2, 1) := by decide +kernel
theorem dX6_setAsset_1 : decode cX6_setAsset 1 = .ok (.bipush 100, 2) := by decide +kernel
theorem dX6_setAsset_3 : decode cX6_setAsset 3 = .ok (.sipush 1000, 3) := by decide +kernel
theorem dX6_setAsset_6 : decode cX6_setAsset 6 = .ok (.invokestatic 52, 3) := by decide +kernel
theorem dX6_setAsset_9 : decode cX6_setAsset 9 = .ok (.ifCond .eq 30, 3) := by decide +kernel
theorem dX6_setAsset_12 : decode cX6_setAsset 12 = .ok (.iload_n 3, 1) := by decide +kernel
theorem dX6_setAsset_13 : decode cX6_setAsset 13 = .ok (.iconst 0, 1) := by decide +kernel
theorem dX6_setAsset_14 : decode cX6_setAsset 14 = .ok (.sipush 200, 3) := by decide +kernel
theorem dX6_setAsset_17 : decode cX6_setAsset 17 = .ok (.invokestatic 52, 3) := by decide +kernel
theorem dX6_setAsset_20 : decode cX6_setAsset 20 = .ok (.ifCond .eq 19, 3) := by decide +kernel
theorem dX6_setAsset_23 : decode cX6_setAsset 23 = .ok (.iload 4, 2) := by decide +kernel
theorem dX6_setAsset_25 : decode cX6_setAsset 25 = .ok (.iconst 0, 1) := by decide +kernel
theorem dX6_setAsset_26 : decode cX6_setAsset 26 = .ok (.sipush 200, 3) := by decide +kernel
theorem dX6_setAsset_29 : decode cX6_setAsset 29 = .ok (.invokestatic 52, 3) := by decide +kernel
theorem dX6_setAsset_32 : decode cX6_setAsset 32 = .ok (.ifCond .eq 7, 3) := by decide +kernel
theorem dX6_setAsset_35 : decode cX6_setAsset 35 = .ok (.iconst 1, 1) := by decide +kernel
theorem dX6_setAsset_36 : decode cX6_setAsset 36 = .ok (.goto 4, 3) := by decide +kernel
theorem dX6_setAsset_39 : decode cX6_setAsset 39 = .ok (.iconst 0, 1) := by decide +kernel
theorem dX6_setAsset_40 : decode cX6_setAsset 40 = .ok (.istore 5, 2) := by decide +kernel
theorem dX6_setAsset_42 : decode cX6_setAsset 42 = .ok (.aload_n 0, 1) := by decide +kernel
theorem dX6_setAsset_43 : decode cX6_setAsset 43 = .ok (.iload_n 1, 1) := by decide +kernel
theorem dX6_setAsset_44 : decode cX6_setAsset 44 = .ok (.iconst 0, 1) := by decide +kernel
theorem dX6_setAsset_45 : decode cX6_setAsset 45 = .ok (.iconst 1, 1) := by decide +kernel
theorem dX6_setAsset_46 : decode cX6_setAsset 46 = .ok (.invokestatic 52, 3) := by decide +kernel
theorem dX6_setAsset_49 : decode cX6_setAsset 49 = .ok (.ifCond .ne 7, 3) := by decide +kernel
theorem dX6_setAsset_52 : decode cX6_setAsset 52 = .ok (.iconst 1, 1) := by decide +kernel
theorem dX6_setAsset_53 : decode cX6_setAsset 53 = .ok (.goto 13, 3) := by decide +kernel
theorem dX6_setAsset_56 : decode cX6_setAsset 56 = .ok (.iload 5, 2) := by decide +kernel
theorem dX6_setAsset_58 : decode cX6_setAsset 58 = .ok (.ifCond .eq 7, 3) := by decide +kernel
theorem dX6_setAsset_61 : decode cX6_setAsset 61 = .ok (.iconst 0, 1) := by decide +kernel
theorem dX6_setAsset_62 : decode cX6_setAsset 62 = .ok (.goto 4, 3) := by decide +kernel
theorem dX6_setAsset_65 : decode cX6_setAsset 65 = .ok (.iconst 2, 1) := by decide +kernel
theorem dX6_setAsset_66 : decode cX6_setAsset 66 = .ok (.invokevirtual 56, 3) := by decide +kernel
theorem dX6_setAsset_69 : decode cX6_setAsset 69 = .ok (.ifCond .eq 30, 3) := by decide +kernel
theorem dX6_setAsset_72 : decode cX6_setAsset 72 = .ok (.aload_n 0, 1) := by decide +kernel
theorem dX6_setAsset_73 : decode cX6_setAsset 73 = .ok (.getfield 7, 3) := by decide +kernel
theorem dX6_setAsset_76 : decode cX6_setAsset 76 = .ok (.iload_n 1, 1) := by decide +kernel
theorem dX6_setAsset_77 : decode cX6_setAsset 77 = .ok (.iload_n 2, 1) := by decide +kernel
theorem dX6_setAsset_78 : decode cX6_setAsset 78 = .ok (.iastore, 1) := by decide +kernel
theorem dX6_setAsset_79 : decode cX6_setAsset 79 = .ok (.aload_n 0, 1) := by decide +kernel
theorem dX6_setAsset_80 : decode cX6_setAsset 80 = .ok (.getfield 13, 3) := by decide +kernel
theorem dX6_setAsset_83 : decode cX6_setAsset 83 = .ok (.iload_n 1, 1) := by decide +kernel
theorem dX6_setAsset_84 : decode cX6_setAsset 84 = .ok (.iload_n 3, 1) := by decide +kernel
theorem dX6_setAsset_85 : decode cX6_setAsset 85 = .ok (.iastore, 1) := by decide +kernel
theorem dX6_setAsset_86 : decode cX6_setAsset 86 = .ok (.aload_n 0, 1) := by decide +kernel
theorem dX6_setAsset_87 : decode cX6_setAsset 87 = .ok (.getfield 16, 3) := by decide +kernel
theorem dX6_setAsset_90 : decode cX6_setAsset 90 = .ok (.iload_n 1, 1) := by decide +kernel
theorem dX6_setAsset_91 : decode cX6_setAsset 91 = .ok (.iload 4, 2) := by decide +kernel
theorem dX6_setAsset_93 : decode cX6_setAsset 93 = .ok (.iastore, 1) := by decide +kernel
theorem dX6_setAsset_94 : decode cX6_setAsset 94 = .ok (.aload_n 0, 1) := by decide +kernel
theorem dX6_setAsset_95 : decode cX6_setAsset 95 = .ok (.iconst 0, 1) := by decide +kernel
theorem dX6_setAsset_96 : decode cX6_setAsset 96 = .ok (.putfield 60, 3) := by decide +kernel
theorem dX6_setAsset_99 : decode cX6_setAsset 99 = .ok (.return_, 1) := by decide +kernel
set_option maxRecDepth 20000 in
theorem ggX6_setMoves_X6_isIn : GoodIn wsX6_setMoves wsX6_isIn := goodIn_r _ [7] (by decide +kernel) (by decide +kernel)
set_option maxRecDepth 20000 in
theorem gX6_setMoves_X6_isIn : GoodIn wsX6_setMoves (va_wsS RX6 52 yX6_isIn wsX6_isIn) := goodIn_app (goodIn_of _ (by decide +kernel)) ggX6_setMoves_X6_isIn
set_option maxRecDepth 20000 in
theorem ggX6_setMoves_X6_goes : GoodIn wsX6_setMoves wsX6_goes := goodIn_r _ [11, 12, 13, 14, 15, 16, 17, 18, 19, 20, 21, 22, 23, 24, 25, 26, 27, 28, 29, 30, 31, 32, 33, 34] (by decide +kernel) (by decide +kernel)
set_option maxRecDepth 20000 in
theorem gX6_setMoves_X6_goes : GoodIn wsX6_setMoves (wsV RX6 56 RX6 yX6_goes wsX6_goes) := goodIn_app (goodIn_of _ (by decide +kernel)) ggX6_setMoves_X6_goes
theorem dX6_setMoves_0 : decode cX6_setMoves 0 = .ok (.aload_n 0, 1) := by decide +kernel
theorem dX6_setMoves_1 : decode cX6_setMoves 1 = .ok (.iload_n 2, 1) := by decide +kernel
theorem dX6_setMoves_2 : decode cX6_setMoves 2 = .ok (.iconst 1, 1) := by decide +kernel
theorem dX6_setMoves_3 : decode cX6_setMoves 3 = .ok (.bipush 9, 2) := by decide +kernel
theorem dX6_setMoves_5 : decode cX6_setMoves 5 = .ok (.invokestatic 52, 3) := by decide +kernel
theorem dX6_setMoves_8 : decode cX6_setMoves 8 = .ok (.ifCond .eq 7, 3) := by decide +kernel
theorem dX6_setMoves_11 : decode cX6_setMoves 11 = .ok (.iconst 0, 1) := by decide +kernel
theorem dX6_setMoves_12 : decode cX6_setMoves 12 = .ok (.goto 4, 3) := by decide +kernel
theorem dX6_setMoves_15 : decode cX6_setMoves 15 = .ok (.iconst 1, 1) := by decide +kernel
theorem dX6_setMoves_16 : decode cX6_setMoves 16 = .ok (.invokevirtual 56, 3) := by decide +kernel
theorem dX6_setMoves_19 : decode cX6_setMoves 19 = .ok (.ifCond .eq 18, 3) := by decide +kernel
theorem dX6_setMoves_22 : decode cX6_setMoves 22 = .ok (.aload_n 0, 1) := by decide +kernel
theorem dX6_setMoves_23 : decode cX6_setMoves 23 = .ok (.iload_n 1, 1) := by decide +kernel
theorem dX6_setMoves_24 : decode cX6_setMoves 24 = .ok (.putfield 63, 3) := by decide +kernel
theorem dX6_setMoves_27 : decode cX6_setMoves 27 = .ok (.aload_n 0, 1) := by decide +kernel
theorem dX6_setMoves_28 : decode cX6_setMoves 28 = .ok (.iload_n 2, 1) := by decide +kernel
theorem dX6_setMoves_29 : decode cX6_setMoves 29 = .ok (.putfield 19, 3) := by decide +kernel
theorem dX6_setMoves_32 : decode cX6_setMoves 32 = .ok (.aload_n 0, 1) := by decide +kernel
theorem dX6_setMoves_33 : decode cX6_setMoves 33 = .ok (.iconst 0, 1) := by decide +kernel
theorem dX6_setMoves_34 : decode cX6_setMoves 34 = .ok (.putfield 60, 3) := by decide +kernel
theorem dX6_setMoves_37 : decode cX6_setMoves 37 = .ok (.return_, 1) := by decide +kernel
set_option maxRecDepth 20000 in
theorem ggX6_setNote_X6_isIn : GoodIn wsX6_setNote wsX6_isIn := goodIn_r _ [10] (by decide +kernel) (by decide +kernel)
set_option maxRecDepth 20000 in
theorem gX6_setNote_X6_isIn : GoodIn wsX6_setNote (va_wsS RX6 52 yX6_isIn wsX6_isIn) := goodIn_app (goodIn_of _ (by decide +kernel)) ggX6_setNote_X6_isIn
set_option maxRecDepth 20000 in
theorem ggX6_setNote_X6_goes : GoodIn wsX6_setNote wsX6_goes := goodIn_r _ [14, 15, 16, 17, 18, 19, 20, 21, 22, 23, 24, 25, 26, 27, 28, 29, 30, 31, 32, 33, 34, 35, 36, 37] (by decide +kernel) (by decide +kernel)
set_option maxRecDepth 20000 in
theorem gX6_setNote_X6_goes : GoodIn wsX6_setNote (wsV RX6 56 RX6 yX6_goes wsX6_goes) := goodIn_app (goodIn_of _ (by decide +kernel)) ggX6_setNote_X6_goes
theorem dX6_setNote_0 : decode cX6_setNote 0 = .ok (.iload_n 1, 1) := by decide +kernel
theorem dX6_setNote_1 : decode cX6_setNote 1 = .ok (.iconst 1, 1) := by decide +kernel
theorem dX6_setNote_2 : decode cX6_setNote 2 = .ok (.bipush 8, 2) := by decide +kernel
theorem dX6_setNote_4 : decode cX6_setNote 4 = .ok (.invokestatic 52, 3) := by decide +kernel
theorem dX6_setNote_7 : decode cX6_setNote 7 = .ok (.ifCond .eq 52, 3) := by decide +kernel
theorem dX6_setNote_10 : decode cX6_setNote 10 = .ok (.iload_n 2, 1) := by decide +kernel
theorem dX6_setNote_11 : decode cX6_setNote 11 = .ok (.iconst 0, 1) := by decide +kernel
theorem dX6_setNote_12 : decode cX6_setNote 12 = .ok (.bipush 100, 2) := by decide +kernel
theorem dX6_setNote_14 : decode cX6_setNote 14 = .ok (.invokestatic 52, 3) := by decide +kernel
theorem dX6_setNote_17 : decode cX6_setNote 17 = .ok (.ifCond .eq 42, 3) := by decide +kernel
theorem dX6_setNote_20 : decode cX6_setNote 20 = .ok (.iload_n 3, 1) := by decide +kernel
theorem dX6_setNote_21 : decode cX6_setNote 21 = .ok (.iconst 0, 1) := by decide +kernel
theorem dX6_setNote_22 : decode cX6_setNote 22 = .ok (.sipush 150, 3) := by decide +kernel
theorem dX6_setNote_25 : decode cX6_setNote 25 = .ok (.invokestatic 52, 3) := by decide +kernel
theorem dX6_setNote_28 : decode cX6_setNote 28 = .ok (.ifCond .eq 31, 3) := by decide +kernel
theorem dX6_setNote_31 : decode cX6_setNote 31 = .ok (.iload 4, 2) := by decide +kernel
theorem dX6_setNote_33 : decode cX6_setNote 33 = .ok (.iconst 0, 1) := by decide +kernel
theorem dX6_setNote_34 : decode cX6_setNote 34 = .ok (.sipush 200, 3) := by decide +kernel
theorem dX6_setNote_37 : decode cX6_setNote 37 = .ok (.invokestatic 52, 3) := by decide +kernel
theorem dX6_setNote_40 : decode cX6_setNote 40 = .ok (.ifCond .eq 19, 3) := by decide +kernel
theorem dX6_setNote_43 : decode cX6_setNote 43 = .ok (.iload 5, 2) := by decide +kernel
theorem dX6_setNote_45 : decode cX6_setNote 45 = .ok (.iconst 0, 1) := by decide +kernel
theorem dX6_setNote_46 : decode cX6_setNote 46 = .ok (.sipush 500, 3) := by decide +kernel
theorem dX6_setNote_49 : decode cX6_setNote 49 = .ok (.invokestatic 52, 3) := by decide +kernel
theorem dX6_setNote_52 : decode cX6_setNote 52 = .ok (.ifCond .eq 7, 3) := by decide +kernel
theorem dX6_setNote_55 : decode cX6_setNote 55 = .ok (.iconst 1, 1) := by decide +kernel
theorem dX6_setNote_56 : decode cX6_setNote 56 = .ok (.goto 4, 3) := by decide +kernel
theorem dX6_setNote_59 : decode cX6_setNote 59 = .ok (.iconst 0, 1) := by decide +kernel
theorem dX6_setNote_60 : decode cX6_setNote 60 = .ok (.istore 6, 2) := by decide +kernel
theorem dX6_setNote_62 : decode cX6_setNote 62 = .ok (.aload_n 0, 1) := by decide +kernel
theorem dX6_setNote_63 : decode cX6_setNote 63 = .ok (.iload 6, 2) := by decide +kernel
theorem dX6_setNote_65 : decode cX6_setNote 65 = .ok (.ifCond .eq 7, 3) := by decide +kernel
theorem dX6_setNote_68 : decode cX6_setNote 68 = .ok (.iconst 0, 1) := by decide +kernel
theorem dX6_setNote_69 : decode cX6_setNote 69 = .ok (.goto 4, 3) := by decide +kernel
theorem dX6_setNote_72 : decode cX6_setNote 72 = .ok (.iconst 1, 1) := by decide +kernel
theorem dX6_setNote_73 : decode cX6_setNote 73 = .ok (.invokevirtual 56, 3) := by decide +kernel
theorem dX6_setNote_76 : decode cX6_setNote 76 = .ok (.ifCond .eq 35, 3) := by decide +kernel
theorem dX6_setNote_79 : decode cX6_setNote 79 = .ok (.aload_n 0, 1) := by decide +kernel
theorem dX6_setNote_80 : decode cX6_setNote 80 = .ok (.iload_n 1, 1) := by decide +kernel
theorem dX6_setNote_81 : decode cX6_setNote 81 = .ok (.putfield 23, 3) := by decide +kernel
theorem dX6_setNote_84 : decode cX6_setNote 84 = .ok (.aload_n 0, 1) := by decide +kernel
theorem dX6_setNote_85 : decode cX6_setNote 85 = .ok (.iload_n 2, 1) := by decide +kernel
theorem dX6_setNote_86 : decode cX6_setNote 86 = .ok (.putfield 26, 3) := by decide +kernel
theorem dX6_setNote_89 : decode cX6_setNote 89 = .ok (.aload_n 0, 1) := by decide +kernel
theorem dX6_setNote_90 : decode cX6_setNote 90 = .ok (.iload_n 3, 1) := by decide +kernel
theorem dX6_setNote_91 : decode cX6_setNote 91 = .ok (.putfield 29, 3) := by decide +kernel
theorem dX6_setNote_94 : decode cX6_setNote 94 = .ok (.aload_n 0, 1) := by decide +kernel
theorem dX6_setNote_95 : decode cX6_setNote 95 = .ok (.iload 4, 2) := by decide +kernel
theorem dX6_setNote_97 : decode cX6_setNote 97 = .ok (.putfield 32, 3) := by decide +kernel
theorem dX6_setNote_100 : decode cX6_setNote 100 = .ok (.aload_n 0, 1) := by decide +kernel
theorem dX6_setNote_101 : decode cX6_setNote 101 = .ok (.iload 5, 2) := by decide +kernel
theorem dX6_setNote_103 : decode cX6_setNote 103 = .ok (.putfield 35, 3) := by decide +kernel
theorem dX6_setNote_106 : decode cX6_setNote 106 = .ok (.aload_n 0, 1) := by decide +kernel
theorem dX6_setNote_107 : decode cX6_setNote 107 = .ok (.iconst 0, 1) := by decide +kernel
theorem dX6_setNote_108 : decode cX6_setNote 108 = .ok (.putfield 60, 3) := by decide +kernel
theorem dX6_setNote_111 : decode cX6_setNote 111 = .ok (.return_, 1) := by decide +kernel
theorem dX6_setKind_0 : decode cX6_setKind 0 = .ok (.aload_n 0, 1) := by decide +kernel
theorem dX6_setKind_1 : decode cX6_setKind 1 = .ok (.iconst 0, 1) := by decide +kernel
theorem dX6_setKind_2 : decode cX6_setKind 2 = .ok (.putfield 49, 3) := by decide +kernel
theorem dX6_setKind_5 : decode cX6_setKind 5 = .ok (.aload_n 0, 1) := by decide +kernel
theorem dX6_setKind_6 : decode cX6_setKind 6 = .ok (.iload_n 1, 1) := by decide +kernel
theorem dX6_setKind_7 : decode cX6_setKind 7 = .ok (.putfield 67, 3) := by decide +kernel
theorem dX6_setKind_10 : decode cX6_setKind 10 = .ok (.aload_n 0, 1) := by decide +kernel
theorem dX6_setKind_11 : decode cX6_setKind 11 = .ok (.iload_n 2, 1) := by decide +kernel
theorem dX6_setKind_12 : decode cX6_setKind 12 = .ok (.putfield 70, 3) := by decide +kernel
theorem dX6_setKind_15 : decode cX6_setKind 15 = .ok (.aload_n 0, 1) := by decide +kernel
theorem dX6_setKind_16 : decode cX6_setKind 16 = .ok (.iconst 0, 1) := by decide +kernel
theorem dX6_setKind_17 : decode cX6_setKind 17 = .ok (.putfield 60, 3) := by decide +kernel
theorem dX6_setKind_20 : decode cX6_setKind 20 = .ok (.return_, 1) := by decide +kernel
theorem dX6_level_0 : decode cX6_level 0 = .ok (.aload_n 0, 1) := by decide +kernel
theorem dX6_level_1 : decode cX6_level 1 = .ok (.getfield 42, 3) := by decide +kernel
theorem dX6_level_4 : decode cX6_level 4 = .ok (.iload_n 1, 1) := by decide +kernel
theorem dX6_level_5 : decode cX6_level 5 = .ok (.iaload, 1) := by decide +kernel
theorem dX6_level_6 : decode cX6_level 6 = .ok (.bipush 100, 2) := by decide +kernel
theorem dX6_level_8 : decode cX6_level 8 = .ok (.imul, 1) := by decide +kernel
theorem dX6_level_9 : decode cX6_level 9 = .ok (.aload_n 0, 1) := by decide +kernel
theorem dX6_level_10 : decode cX6_level 10 = .ok (.getfield 7, 3) := by decide +kernel
theorem dX6_level_13 : decode cX6_level 13 = .ok (.iload_n 1, 1) := by decide +kernel
theorem dX6_level_14 : decode cX6_level 14 = .ok (.iaload, 1) := by decide +kernel
theorem dX6_level_15 : decode cX6_level 15 = .ok (.idiv, 1) := by decide +kernel
theorem dX6_level_16 : decode cX6_level 16 = .ok (.ireturn, 1) := by decide +kernel
set_option maxRecDepth 20000 in
theorem ggX6_worstNow_X6_level : GoodIn wsX6_worstNow wsX6_level := goodIn_r _ [5, 6, 7, 8, 9, 10, 11, 12, 13, 14, 15, 16, 17, 18, 19, 20, 21, 22, 23, 24, 25, 26, 27, 28, 29] (by decide +kernel) (by decide +kernel)
set_option maxRecDepth 20000 in
theorem gX6_worstNow_X6_level : GoodIn wsX6_worstNow (wsV RX6 73 RX6 yX6_level wsX6_level) := goodIn_app (goodIn_of _ (by decide +kernel)) ggX6_worstNow_X6_level
theorem dX6_worstNow_0 : decode cX6_worstNow 0 = .ok (.aload_n 0, 1) := by decide +kernel
theorem dX6_worstNow_1 : decode cX6_worstNow 1 = .ok (.iconst 0, 1) := by decide +kernel
theorem dX6_worstNow_2 : decode cX6_worstNow 2 = .ok (.invokevirtual 73, 3) := by decide +kernel
theorem dX6_worstNow_5 : decode cX6_worstNow 5 = .ok (.aload_n 0, 1) := by decide +kernel
theorem dX6_worstNow_6 : decode cX6_worstNow 6 = .ok (.iconst 1, 1) := by decide +kernel
theorem dX6_worstNow_7 : decode cX6_worstNow 7 = .ok (.invokevirtual 73, 3) := by decide +kernel
theorem dX6_worstNow_10 : decode cX6_worstNow 10 = .ok (.if_icmp .ge 11, 3) := by decide +kernel
theorem dX6_worstNow_13 : decode cX6_worstNow 13 = .ok (.aload_n 0, 1) := by decide +kernel
theorem dX6_worstNow_14 : decode cX6_worstNow 14 = .ok (.iconst 0, 1) := by decide +kernel
theorem dX6_worstNow_15 : decode cX6_worstNow 15 = .ok (.invokevirtual 73, 3) := by decide +kernel
theorem dX6_worstNow_18 : decode cX6_worstNow 18 = .ok (.goto 8, 3) := by decide +kernel
theorem dX6_worstNow_21 : decode cX6_worstNow 21 = .ok (.aload_n 0, 1) := by decide +kernel
theorem dX6_worstNow_22 : decode cX6_worstNow 22 = .ok (.iconst 1, 1) := by decide +kernel
theorem dX6_worstNow_23 : decode cX6_worstNow 23 = .ok (.invokevirtual 73, 3) := by decide +kernel
theorem dX6_worstNow_26 : decode cX6_worstNow 26 = .ok (.ireturn, 1) := by decide +kernel
theorem dX6_moves_0 : decode cX6_moves 0 = .ok (.iload_n 2, 1) := by decide +kernel
theorem dX6_moves_1 : decode cX6_moves 1 = .ok (.ifCond .eq 19, 3) := by decide +kernel
theorem dX6_moves_4 : decode cX6_moves 4 = .ok (.aload_n 0, 1) := by decide +kernel
theorem dX6_moves_5 : decode cX6_moves 5 = .ok (.getfield 42, 3) := by decide +kernel
theorem dX6_moves_8 : decode cX6_moves 8 = .ok (.iload_n 1, 1) := by decide +kernel
theorem dX6_moves_9 : decode cX6_moves 9 = .ok (.iaload, 1) := by decide +kernel
theorem dX6_moves_10 : decode cX6_moves 10 = .ok (.aload_n 0, 1) := by decide +kernel
theorem dX6_moves_11 : decode cX6_moves 11 = .ok (.getfield 13, 3) := by decide +kernel
theorem dX6_moves_14 : decode cX6_moves 14 = .ok (.iload_n 1, 1) := by decide +kernel
theorem dX6_moves_15 : decode cX6_moves 15 = .ok (.iaload, 1) := by decide +kernel
theorem dX6_moves_16 : decode cX6_moves 16 = .ok (.iadd, 1) := by decide +kernel
theorem dX6_moves_17 : decode cX6_moves 17 = .ok (.goto 16, 3) := by decide +kernel
theorem dX6_moves_20 : decode cX6_moves 20 = .ok (.aload_n 0, 1) := by decide +kernel
theorem dX6_moves_21 : decode cX6_moves 21 = .ok (.getfield 42, 3) := by decide +kernel
theorem dX6_moves_24 : decode cX6_moves 24 = .ok (.iload_n 1, 1) := by decide +kernel
theorem dX6_moves_25 : decode cX6_moves 25 = .ok (.iaload, 1) := by decide +kernel
theorem dX6_moves_26 : decode cX6_moves 26 = .ok (.aload_n 0, 1) := by decide +kernel
theorem dX6_moves_27 : decode cX6_moves 27 = .ok (.getfield 16, 3) := by decide +kernel
theorem dX6_moves_30 : decode cX6_moves 30 = .ok (.iload_n 1, 1) := by decide +kernel
theorem dX6_moves_31 : decode cX6_moves 31 = .ok (.iaload, 1) := by decide +kernel
theorem dX6_moves_32 : decode cX6_moves 32 = .ok (.isub, 1) := by decide +kernel
theorem dX6_moves_33 : decode cX6_moves 33 = .ok (.istore_n 3, 1) := by decide +kernel
theorem dX6_moves_34 : decode cX6_moves 34 = .ok (.aload_n 0, 1) := by decide +kernel
theorem dX6_moves_35 : decode cX6_moves 35 = .ok (.getfield 42, 3) := by decide +kernel
theorem dX6_moves_38 : decode cX6_moves 38 = .ok (.iload_n 1, 1) := by decide +kernel
theorem dX6_moves_39 : decode cX6_moves 39 = .ok (.iload_n 3, 1) := by decide +kernel
theorem dX6_moves_40 : decode cX6_moves 40 = .ok (.iconst 1, 1) := by decide +kernel
theorem dX6_moves_41 : decode cX6_moves 41 = .ok (.if_icmp .ge 7, 3) := by decide +kernel
theorem dX6_moves_44 : decode cX6_moves 44 = .ok (.iconst 1, 1) := by decide +kernel
theorem dX6_moves_45 : decode cX6_moves 45 = .ok (.goto 4, 3) := by decide +kernel
theorem dX6_moves_48 : decode cX6_moves 48 = .ok (.iload_n 3, 1) := by decide +kernel
theorem dX6_moves_49 : decode cX6_moves 49 = .ok (.iastore, 1) := by decide +kernel
theorem dX6_moves_50 : decode cX6_moves 50 = .ok (.return_, 1) := by decide +kernel
set_option maxRecDepth 20000 in
theorem ggX6_period_X6_moves : GoodIn wsX6_period wsX6_moves := goodIn_r _ [18, 19, 20, 21, 31, 32, 33, 34, 35, 36, 37, 38, 39, 40, 41, 42, 43, 44, 45, 46, 47, 48, 49, 50, 51, 52] (by decide +kernel) (by decide +kernel)
set_option maxRecDepth 20000 in
theorem gX6_period_X6_moves : GoodIn wsX6_period (wsV RX6 77 RX6 yX6_moves wsX6_moves) := goodIn_app (goodIn_of _ (by decide +kernel)) ggX6_period_X6_moves
set_option maxRecDepth 20000 in
theorem ggX6_period_X6_worstNow : GoodIn wsX6_period wsX6_worstNow := goodIn_r _ [25, 26, 27, 28, 17, 29, 19, 30, 31, 32, 33, 34, 35, 36, 37, 38, 39, 40, 41, 42, 43, 44, 45, 46, 47, 48, 49, 50, 51, 52] (by decide +kernel) (by decide +kernel)
set_option maxRecDepth 20000 in
theorem gX6_period_X6_worstNow : GoodIn wsX6_period (wsV RX6 83 RX6 yX6_worstNow wsX6_worstNow) := goodIn_app (goodIn_of _ (by decide +kernel)) ggX6_period_X6_worstNow
theorem dX6_period_0 : decode cX6_period 0 = .ok (.aload_n 0, 1) := by decide +kernel
theorem dX6_period_1 : decode cX6_period 1 = .ok (.iconst 0, 1) := by decide +kernel
theorem dX6_period_2 : decode cX6_period 2 = .ok (.iload_n 1, 1) := by decide +kernel
theorem dX6_period_3 : decode cX6_period 3 = .ok (.invokevirtual 77, 3) := by decide +kernel
theorem dX6_period_6 : decode cX6_period 6 = .ok (.aload_n 0, 1) := by decide +kernel
theorem dX6_period_7 : decode cX6_period 7 = .ok (.iconst 1, 1) := by decide +kernel
theorem dX6_period_8 : decode cX6_period 8 = .ok (.iload_n 1, 1) := by decide +kernel
theorem dX6_period_9 : decode cX6_period 9 = .ok (.aload_n 0, 1) := by decide +kernel
theorem dX6_period_10 : decode cX6_period 10 = .ok (.getfield 63, 3) := by decide +kernel
theorem dX6_period_13 : decode cX6_period 13 = .ok (.if_icmp .eq 7, 3) := by decide +kernel
theorem dX6_period_16 : decode cX6_period 16 = .ok (.iconst 1, 1) := by decide +kernel
theorem dX6_period_17 : decode cX6_period 17 = .ok (.goto 4, 3) := by decide +kernel
theorem dX6_period_20 : decode cX6_period 20 = .ok (.iconst 0, 1) := by decide +kernel
theorem dX6_period_21 : decode cX6_period 21 = .ok (.invokevirtual 77, 3) := by decide +kernel
theorem dX6_period_24 : decode cX6_period 24 = .ok (.aload_n 0, 1) := by decide +kernel
theorem dX6_period_25 : decode cX6_period 25 = .ok (.dup, 1) := by decide +kernel
theorem dX6_period_26 : decode cX6_period 26 = .ok (.getfield 80, 3) := by decide +kernel
theorem dX6_period_29 : decode cX6_period 29 = .ok (.iconst 1, 1) := by decide +kernel
theorem dX6_period_30 : decode cX6_period 30 = .ok (.iadd, 1) := by decide +kernel
theorem dX6_period_31 : decode cX6_period 31 = .ok (.putfield 80, 3) := by decide +kernel
theorem dX6_period_34 : decode cX6_period 34 = .ok (.aload_n 0, 1) := by decide +kernel
theorem dX6_period_35 : decode cX6_period 35 = .ok (.invokevirtual 83, 3) := by decide +kernel
theorem dX6_period_38 : decode cX6_period 38 = .ok (.istore_n 2, 1) := by decide +kernel
theorem dX6_period_39 : decode cX6_period 39 = .ok (.aload_n 0, 1) := by decide +kernel
theorem dX6_period_40 : decode cX6_period 40 = .ok (.getfield 80, 3) := by decide +kernel
theorem dX6_period_43 : decode cX6_period 43 = .ok (.aload_n 0, 1) := by decide +kernel
theorem dX6_period_44 : decode cX6_period 44 = .ok (.getfield 23, 3) := by decide +kernel
theorem dX6_period_47 : decode cX6_period 47 = .ok (.if_icmp .ne 7, 3) := by decide +kernel
theorem dX6_period_50 : decode cX6_period 50 = .ok (.iconst 1, 1) := by decide +kernel
theorem dX6_period_51 : decode cX6_period 51 = .ok (.goto 4, 3) := by decide +kernel
theorem dX6_period_54 : decode cX6_period 54 = .ok (.iconst 0, 1) := by decide +kernel
theorem dX6_period_55 : decode cX6_period 55 = .ok (.istore_n 3, 1) := by decide +kernel
theorem dX6_period_56 : decode cX6_period 56 = .ok (.aload_n 0, 1) := by decide +kernel
theorem dX6_period_57 : decode cX6_period 57 = .ok (.aload_n 0, 1) := by decide +kernel
theorem dX6_period_58 : decode cX6_period 58 = .ok (.getfield 87, 3) := by decide +kernel
theorem dX6_period_61 : decode cX6_period 61 = .ok (.ifCond .ne 22, 3) := by decide +kernel
theorem dX6_period_64 : decode cX6_period 64 = .ok (.iload_n 2, 1) := by decide +kernel
theorem dX6_period_65 : decode cX6_period 65 = .ok (.aload_n 0, 1) := by decide +kernel
theorem dX6_period_66 : decode cX6_period 66 = .ok (.getfield 26, 3) := by decide +kernel
theorem dX6_period_69 : decode cX6_period 69 = .ok (.if_icmp .ge 18, 3) := by decide +kernel
theorem dX6_period_72 : decode cX6_period 72 = .ok (.iload_n 3, 1) := by decide +kernel
theorem dX6_period_73 : decode cX6_period 73 = .ok (.ifCond .ne 10, 3) := by decide +kernel
theorem dX6_period_76 : decode cX6_period 76 = .ok (.aload_n 0, 1) := by decide +kernel
theorem dX6_period_77 : decode cX6_period 77 = .ok (.getfield 67, 3) := by decide +kernel
theorem dX6_period_80 : decode cX6_period 80 = .ok (.ifCond .ne 7, 3) := by decide +kernel
theorem dX6_period_83 : decode cX6_period 83 = .ok (.iconst 1, 1) := by decide +kernel
theorem dX6_period_84 : decode cX6_period 84 = .ok (.goto 4, 3) := by decide +kernel
theorem dX6_period_87 : decode cX6_period 87 = .ok (.iconst 0, 1) := by decide +kernel
theorem dX6_period_88 : decode cX6_period 88 = .ok (.putfield 87, 3) := by decide +kernel
theorem dX6_period_91 : decode cX6_period 91 = .ok (.iload_n 2, 1) := by decide +kernel
theorem dX6_period_92 : decode cX6_period 92 = .ok (.aload_n 0, 1) := by decide +kernel
theorem dX6_period_93 : decode cX6_period 93 = .ok (.getfield 29, 3) := by decide +kernel
theorem dX6_period_96 : decode cX6_period 96 = .ok (.if_icmp .lt 45, 3) := by decide +kernel
theorem dX6_period_99 : decode cX6_period 99 = .ok (.aload_n 0, 1) := by decide +kernel
theorem dX6_period_100 : decode cX6_period 100 = .ok (.dup, 1) := by decide +kernel
theorem dX6_period_101 : decode cX6_period 101 = .ok (.getfield 90, 3) := by decide +kernel
theorem dX6_period_104 : decode cX6_period 104 = .ok (.aload_n 0, 1) := by decide +kernel
theorem dX6_period_105 : decode cX6_period 105 = .ok (.getfield 35, 3) := by decide +kernel
theorem dX6_period_108 : decode cX6_period 108 = .ok (.aload_n 0, 1) := by decide +kernel
theorem dX6_period_109 : decode cX6_period 109 = .ok (.getfield 70, 3) := by decide +kernel
theorem dX6_period_112 : decode cX6_period 112 = .ok (.ifCond .eq 15, 3) := by decide +kernel
theorem dX6_period_115 : decode cX6_period 115 = .ok (.aload_n 0, 1) := by decide +kernel
theorem dX6_period_116 : decode cX6_period 116 = .ok (.getfield 93, 3) := by decide +kernel
theorem dX6_period_119 : decode cX6_period 119 = .ok (.aload_n 0, 1) := by decide +kernel
theorem dX6_period_120 : decode cX6_period 120 = .ok (.getfield 35, 3) := by decide +kernel
theorem dX6_period_123 : decode cX6_period 123 = .ok (.imul, 1) := by decide +kernel
theorem dX6_period_124 : decode cX6_period 124 = .ok (.goto 4, 3) := by decide +kernel
theorem dX6_period_127 : decode cX6_period 127 = .ok (.iconst 0, 1) := by decide +kernel
theorem dX6_period_128 : decode cX6_period 128 = .ok (.iadd, 1) := by decide +kernel
theorem dX6_period_129 : decode cX6_period 129 = .ok (.iadd, 1) := by decide +kernel
theorem dX6_period_130 : decode cX6_period 130 = .ok (.putfield 90, 3) := by decide +kernel
theorem dX6_period_133 : decode cX6_period 133 = .ok (.aload_n 0, 1) := by decide +kernel
theorem dX6_period_134 : decode cX6_period 134 = .ok (.iconst 0, 1) := by decide +kernel
theorem dX6_period_135 : decode cX6_period 135 = .ok (.putfield 93, 3) := by decide +kernel
theorem dX6_period_138 : decode cX6_period 138 = .ok (.goto 13, 3) := by decide +kernel
theorem dX6_period_141 : decode cX6_period 141 = .ok (.aload_n 0, 1) := by decide +kernel
theorem dX6_period_142 : decode cX6_period 142 = .ok (.dup, 1) := by decide +kernel
theorem dX6_period_143 : decode cX6_period 143 = .ok (.getfield 93, 3) := by decide +kernel
theorem dX6_period_146 : decode cX6_period 146 = .ok (.iconst 1, 1) := by decide +kernel
theorem dX6_period_147 : decode cX6_period 147 = .ok (.iadd, 1) := by decide +kernel
theorem dX6_period_148 : decode cX6_period 148 = .ok (.putfield 93, 3) := by decide +kernel
theorem dX6_period_151 : decode cX6_period 151 = .ok (.iload_n 3, 1) := by decide +kernel
theorem dX6_period_152 : decode cX6_period 152 = .ok (.ifCond .eq 38, 3) := by decide +kernel
theorem dX6_period_155 : decode cX6_period 155 = .ok (.aload_n 0, 1) := by decide +kernel
theorem dX6_period_156 : decode cX6_period 156 = .ok (.dup, 1) := by decide +kernel
theorem dX6_period_157 : decode cX6_period 157 = .ok (.getfield 90, 3) := by decide +kernel
theorem dX6_period_160 : decode cX6_period 160 = .ok (.aload_n 0, 1) := by decide +kernel
theorem dX6_period_161 : decode cX6_period 161 = .ok (.getfield 87, 3) := by decide +kernel
theorem dX6_period_164 : decode cX6_period 164 = .ok (.ifCond .eq 16, 3) := by decide +kernel
theorem dX6_period_167 : decode cX6_period 167 = .ok (.iload_n 2, 1) := by decide +kernel
theorem dX6_period_168 : decode cX6_period 168 = .ok (.bipush 100, 2) := by decide +kernel
theorem dX6_period_170 : decode cX6_period 170 = .ok (.if_icmp .ge 10, 3) := by decide +kernel
theorem dX6_period_173 : decode cX6_period 173 = .ok (.bipush 10, 2) := by decide +kernel
theorem dX6_period_175 : decode cX6_period 175 = .ok (.iload_n 2, 1) := by decide +kernel
theorem dX6_period_176 : decode cX6_period 176 = .ok (.imul, 1) := by decide +kernel
theorem dX6_period_177 : decode cX6_period 177 = .ok (.goto 6, 3) := by decide +kernel
theorem dX6_period_180 : decode cX6_period 180 = .ok (.sipush 1000, 3) := by decide +kernel
theorem dX6_period_183 : decode cX6_period 183 = .ok (.iadd, 1) := by decide +kernel
theorem dX6_period_184 : decode cX6_period 184 = .ok (.putfield 90, 3) := by decide +kernel
theorem dX6_period_187 : decode cX6_period 187 = .ok (.goto 23, 3) := by decide +kernel
theorem dX6_period_190 : decode cX6_period 190 = .ok (.iload_n 2, 1) := by decide +kernel
theorem dX6_period_191 : decode cX6_period 191 = .ok (.aload_n 0, 1) := by decide +kernel
theorem dX6_period_192 : decode cX6_period 192 = .ok (.getfield 32, 3) := by decide +kernel
theorem dX6_period_195 : decode cX6_period 195 = .ok (.if_icmp .lt 15, 3) := by decide +kernel
theorem dX6_period_198 : decode cX6_period 198 = .ok (.aload_n 0, 1) := by decide +kernel
theorem dX6_period_199 : decode cX6_period 199 = .ok (.dup, 1) := by decide +kernel
theorem dX6_period_200 : decode cX6_period 200 = .ok (.getfield 90, 3) := by decide +kernel
theorem dX6_period_203 : decode cX6_period 203 = .ok (.sipush 1000, 3) := by decide +kernel
theorem dX6_period_206 : decode cX6_period 206 = .ok (.iadd, 1) := by decide +kernel
theorem dX6_period_207 : decode cX6_period 207 = .ok (.putfield 90, 3) := by decide +kernel
theorem dX6_period_210 : decode cX6_period 210 = .ok (.aload_n 0, 1) := by decide +kernel
theorem dX6_period_211 : decode cX6_period 211 = .ok (.iload_n 3, 1) := by decide +kernel
theorem dX6_period_212 : decode cX6_period 212 = .ok (.ifCond .ne 11, 3) := by decide +kernel
theorem dX6_period_215 : decode cX6_period 215 = .ok (.iload_n 2, 1) := by decide +kernel
theorem dX6_period_216 : decode cX6_period 216 = .ok (.aload_n 0, 1) := by decide +kernel
theorem dX6_period_217 : decode cX6_period 217 = .ok (.getfield 32, 3) := by decide +kernel
theorem dX6_period_220 : decode cX6_period 220 = .ok (.if_icmp .lt 7, 3) := by decide +kernel
theorem dX6_period_223 : decode cX6_period 223 = .ok (.iconst 1, 1) := by decide +kernel
theorem dX6_period_224 : decode cX6_period 224 = .ok (.goto 4, 3) := by decide +kernel
theorem dX6_period_227 : decode cX6_period 227 = .ok (.iconst 0, 1) := by decide +kernel
theorem dX6_period_228 : decode cX6_period 228 = .ok (.putfield 96, 3) := by decide +kernel
theorem dX6_period_231 : decode cX6_period 231 = .ok (.return_, 1) := by decide +kernel
set_option maxRecDepth 20000 in
theorem ggX6_runs_X6_period : GoodIn wsX6_runs wsX6_period := goodIn_r _ [13, 14, 6, 15, 4, 16, 17, 18, 7, 19, 20, 3, 21, 5, 22, 23, 24, 12, 25, 1, 26, 27, 28, 29, 30, 31, 32, 33, 34, 35, 2, 36, 37, 38, 39, 40, 41, 42, 43, 44, 45, 46, 47, 48, 49, 50, 51, 52, 53, 54, 55, 56, 57] (by decide +kernel) (by decide +kernel)
set_option maxRecDepth 20000 in
theorem gX6_runs_X6_period : GoodIn wsX6_runs (wsV RX6 99 RX6 yX6_period wsX6_period) := goodIn_app (goodIn_of _ (by decide +kernel)) ggX6_runs_X6_period
theorem dX6_runs_0 : decode cX6_runs 0 = .ok (.aload_n 0, 1) := by decide +kernel
theorem dX6_runs_1 : decode cX6_runs 1 = .ok (.getfield 42, 3) := by decide +kernel
theorem dX6_runs_4 : decode cX6_runs 4 = .ok (.iconst 0, 1) := by decide +kernel
theorem dX6_runs_5 : decode cX6_runs 5 = .ok (.aload_n 0, 1) := by decide +kernel
theorem dX6_runs_6 : decode cX6_runs 6 = .ok (.getfield 7, 3) := by decide +kernel
theorem dX6_runs_9 : decode cX6_runs 9 = .ok (.iconst 0, 1) := by decide +kernel
theorem dX6_runs_10 : decode cX6_runs 10 = .ok (.iaload, 1) := by decide +kernel
theorem dX6_runs_11 : decode cX6_runs 11 = .ok (.iastore, 1) := by decide +kernel
theorem dX6_runs_12 : decode cX6_runs 12 = .ok (.aload_n 0, 1) := by decide +kernel
theorem dX6_runs_13 : decode cX6_runs 13 = .ok (.getfield 42, 3) := by decide +kernel
theorem dX6_runs_16 : decode cX6_runs 16 = .ok (.iconst 1, 1) := by decide +kernel
theorem dX6_runs_17 : decode cX6_runs 17 = .ok (.aload_n 0, 1) := by decide +kernel
theorem dX6_runs_18 : decode cX6_runs 18 = .ok (.getfield 7, 3) := by decide +kernel
theorem dX6_runs_21 : decode cX6_runs 21 = .ok (.iconst 1, 1) := by decide +kernel
theorem dX6_runs_22 : decode cX6_runs 22 = .ok (.iaload, 1) := by decide +kernel
theorem dX6_runs_23 : decode cX6_runs 23 = .ok (.iastore, 1) := by decide +kernel
theorem dX6_runs_24 : decode cX6_runs 24 = .ok (.aload_n 0, 1) := by decide +kernel
theorem dX6_runs_25 : decode cX6_runs 25 = .ok (.iconst 0, 1) := by decide +kernel
theorem dX6_runs_26 : decode cX6_runs 26 = .ok (.putfield 93, 3) := by decide +kernel
theorem dX6_runs_29 : decode cX6_runs 29 = .ok (.aload_n 0, 1) := by decide +kernel
theorem dX6_runs_30 : decode cX6_runs 30 = .ok (.iconst 0, 1) := by decide +kernel
theorem dX6_runs_31 : decode cX6_runs 31 = .ok (.putfield 87, 3) := by decide +kernel
theorem dX6_runs_34 : decode cX6_runs 34 = .ok (.aload_n 0, 1) := by decide +kernel
theorem dX6_runs_35 : decode cX6_runs 35 = .ok (.iconst 0, 1) := by decide +kernel
theorem dX6_runs_36 : decode cX6_runs 36 = .ok (.putfield 96, 3) := by decide +kernel
theorem dX6_runs_39 : decode cX6_runs 39 = .ok (.aload_n 0, 1) := by decide +kernel
theorem dX6_runs_40 : decode cX6_runs 40 = .ok (.iconst 0, 1) := by decide +kernel
theorem dX6_runs_41 : decode cX6_runs 41 = .ok (.putfield 80, 3) := by decide +kernel
theorem dX6_runs_44 : decode cX6_runs 44 = .ok (.aload_n 0, 1) := by decide +kernel
theorem dX6_runs_45 : decode cX6_runs 45 = .ok (.iconst 0, 1) := by decide +kernel
theorem dX6_runs_46 : decode cX6_runs 46 = .ok (.putfield 90, 3) := by decide +kernel
theorem dX6_runs_49 : decode cX6_runs 49 = .ok (.iconst 0, 1) := by decide +kernel
theorem dX6_runs_50 : decode cX6_runs 50 = .ok (.istore_n 2, 1) := by decide +kernel
theorem dX6_runs_51 : decode cX6_runs 51 = .ok (.iload_n 2, 1) := by decide +kernel
theorem dX6_runs_52 : decode cX6_runs 52 = .ok (.iload_n 1, 1) := by decide +kernel
theorem dX6_runs_53 : decode cX6_runs 53 = .ok (.if_icmp .ge 26, 3) := by decide +kernel
theorem dX6_runs_56 : decode cX6_runs 56 = .ok (.aload_n 0, 1) := by decide +kernel
theorem dX6_runs_57 : decode cX6_runs 57 = .ok (.getfield 96, 3) := by decide +kernel
theorem dX6_runs_60 : decode cX6_runs 60 = .ok (.ifCond .ne 19, 3) := by decide +kernel
theorem dX6_runs_63 : decode cX6_runs 63 = .ok (.aload_n 0, 1) := by decide +kernel
theorem dX6_runs_64 : decode cX6_runs 64 = .ok (.aload_n 0, 1) := by decide +kernel
theorem dX6_runs_65 : decode cX6_runs 65 = .ok (.getfield 38, 3) := by decide +kernel
theorem dX6_runs_68 : decode cX6_runs 68 = .ok (.iload_n 2, 1) := by decide +kernel
theorem dX6_runs_69 : decode cX6_runs 69 = .ok (.baload, 1) := by decide +kernel
theorem dX6_runs_70 : decode cX6_runs 70 = .ok (.invokevirtual 99, 3) := by decide +kernel
theorem dX6_runs_73 : decode cX6_runs 73 = .ok (.iinc 2 1, 3) := by decide +kernel
theorem dX6_runs_76 : decode cX6_runs 76 = .ok (.goto (-25), 3) := by decide +kernel
theorem dX6_runs_79 : decode cX6_runs 79 = .ok (.return_, 1) := by decide +kernel
set_option maxRecDepth 20000 in
theorem ggX6_paidBy_X6_runs : GoodIn wsX6_paidBy wsX6_runs := goodIn_r _ [6, 7, 8, 9, 10, 11, 12, 1, 13, 14, 15, 16, 5, 17, 18, 19, 20, 21, 22, 23, 24, 25, 26, 27, 28, 29, 30, 31, 32, 33, 34, 35, 36, 37, 38, 39, 40, 41, 42, 43, 44, 45, 46, 47, 48, 49, 50, 51, 52, 53, 54, 55, 56, 57, 58, 59, 60, 61] (by decide +kernel) (by decide +kernel)
set_option maxRecDepth 20000 in
theorem gX6_paidBy_X6_runs : GoodIn wsX6_paidBy (wsV RX6 103 RX6 yX6_runs wsX6_runs) := goodIn_app (goodIn_of _ (by decide +kernel)) ggX6_paidBy_X6_runs
theorem dX6_paidBy_0 : decode cX6_paidBy 0 = .ok (.aload_n 0, 1) := by decide +kernel
theorem dX6_paidBy_1 : decode cX6_paidBy 1 = .ok (.iload_n 1, 1) := by decide +kernel
theorem dX6_paidBy_2 : decode cX6_paidBy 2 = .ok (.invokevirtual 103, 3) := by decide +kernel
theorem dX6_paidBy_5 : decode cX6_paidBy 5 = .ok (.aload_n 0, 1) := by decide +kernel
theorem dX6_paidBy_6 : decode cX6_paidBy 6 = .ok (.getfield 90, 3) := by decide +kernel
theorem dX6_paidBy_9 : decode cX6_paidBy 9 = .ok (.ireturn, 1) := by decide +kernel
set_option maxRecDepth 20000 in
theorem ggX6_tell_X6_paidBy : GoodIn wsX6_tell wsX6_paidBy := goodIn_r _ [8, 9, 10, 11, 12, 7, 13, 14, 15, 16, 17, 2, 18, 3, 19, 20, 21, 22, 23, 24, 25, 26, 27, 28, 29, 30, 31, 32, 33, 34, 35, 36, 37, 38, 39, 40, 41, 42, 43, 44, 50, 51, 52, 53, 54, 55, 56, 57, 58, 59, 60, 61, 62, 63, 64, 65, 66, 67, 68, 69, 70, 71] (by decide +kernel) (by decide +kernel)
set_option maxRecDepth 20000 in
theorem gX6_tell_X6_paidBy : GoodIn wsX6_tell (wsV RX6 107 RX6 yX6_paidBy wsX6_paidBy) := goodIn_app (goodIn_of _ (by decide +kernel)) ggX6_tell_X6_paidBy
set_option maxRecDepth 20000 in
theorem ggX6_tell_X6_goes : GoodIn wsX6_tell wsX6_goes := goodIn_r _ [48, 49, 50, 51, 52, 53, 54, 55, 56, 57, 58, 59, 60, 61, 62, 63, 64, 65, 66, 67, 68, 69, 70, 71] (by decide +kernel) (by decide +kernel)
set_option maxRecDepth 20000 in
theorem gX6_tell_X6_goes : GoodIn wsX6_tell (wsV RX6 56 RX6 yX6_goes wsX6_goes) := goodIn_app (goodIn_of _ (by decide +kernel)) ggX6_tell_X6_goes
theorem dX6_tell_0 : decode cX6_tell 0 = .ok (.aload_n 0, 1) := by decide +kernel
theorem dX6_tell_1 : decode cX6_tell 1 = .ok (.aload_n 0, 1) := by decide +kernel
theorem dX6_tell_2 : decode cX6_tell 2 = .ok (.getfield 60, 3) := by decide +kernel
theorem dX6_tell_5 : decode cX6_tell 5 = .ok (.invokevirtual 107, 3) := by decide +kernel
theorem dX6_tell_8 : decode cX6_tell 8 = .ok (.istore_n 2, 1) := by decide +kernel
theorem dX6_tell_9 : decode cX6_tell 9 = .ok (.aload_n 0, 1) := by decide +kernel
theorem dX6_tell_10 : decode cX6_tell 10 = .ok (.aload_n 0, 1) := by decide +kernel
theorem dX6_tell_11 : decode cX6_tell 11 = .ok (.getfield 96, 3) := by decide +kernel
theorem dX6_tell_14 : decode cX6_tell 14 = .ok (.ifCond .eq 7, 3) := by decide +kernel
theorem dX6_tell_17 : decode cX6_tell 17 = .ok (.iconst 1, 1) := by decide +kernel
theorem dX6_tell_18 : decode cX6_tell 18 = .ok (.goto 4, 3) := by decide +kernel
theorem dX6_tell_21 : decode cX6_tell 21 = .ok (.iconst 0, 1) := by decide +kernel
theorem dX6_tell_22 : decode cX6_tell 22 = .ok (.invokevirtual 56, 3) := by decide +kernel
theorem dX6_tell_25 : decode cX6_tell 25 = .ok (.ifCond .ne 5, 3) := by decide +kernel
theorem dX6_tell_28 : decode cX6_tell 28 = .ok (.iconst 0, 1) := by decide +kernel
theorem dX6_tell_29 : decode cX6_tell 29 = .ok (.ireturn, 1) := by decide +kernel
theorem dX6_tell_30 : decode cX6_tell 30 = .ok (.aload_n 0, 1) := by decide +kernel
theorem dX6_tell_31 : decode cX6_tell 31 = .ok (.getfield 38, 3) := by decide +kernel
theorem dX6_tell_34 : decode cX6_tell 34 = .ok (.aload_n 0, 1) := by decide +kernel
theorem dX6_tell_35 : decode cX6_tell 35 = .ok (.getfield 60, 3) := by decide +kernel
theorem dX6_tell_38 : decode cX6_tell 38 = .ok (.iload_n 1, 1) := by decide +kernel
theorem dX6_tell_39 : decode cX6_tell 39 = .ok (.bastore, 1) := by decide +kernel
theorem dX6_tell_40 : decode cX6_tell 40 = .ok (.aload_n 0, 1) := by decide +kernel
theorem dX6_tell_41 : decode cX6_tell 41 = .ok (.dup, 1) := by decide +kernel
theorem dX6_tell_42 : decode cX6_tell 42 = .ok (.getfield 60, 3) := by decide +kernel
theorem dX6_tell_45 : decode cX6_tell 45 = .ok (.iconst 1, 1) := by decide +kernel
theorem dX6_tell_46 : decode cX6_tell 46 = .ok (.iadd, 1) := by decide +kernel
theorem dX6_tell_47 : decode cX6_tell 47 = .ok (.putfield 60, 3) := by decide +kernel
theorem dX6_tell_50 : decode cX6_tell 50 = .ok (.aload_n 0, 1) := by decide +kernel
theorem dX6_tell_51 : decode cX6_tell 51 = .ok (.aload_n 0, 1) := by decide +kernel
theorem dX6_tell_52 : decode cX6_tell 52 = .ok (.getfield 60, 3) := by decide +kernel
theorem dX6_tell_55 : decode cX6_tell 55 = .ok (.invokevirtual 107, 3) := by decide +kernel
theorem dX6_tell_58 : decode cX6_tell 58 = .ok (.iload_n 2, 1) := by decide +kernel
theorem dX6_tell_59 : decode cX6_tell 59 = .ok (.isub, 1) := by decide +kernel
theorem dX6_tell_60 : decode cX6_tell 60 = .ok (.ireturn, 1) := by decide +kernel
set_option maxRecDepth 20000 in
theorem ggX6_takeBack_X6_goes : GoodIn wsX6_takeBack wsX6_goes := goodIn_r _ [6, 7, 50, 51, 52, 53, 54, 55, 56, 57, 58, 59, 60, 61, 62, 63, 64, 65, 66, 67, 68, 69, 70, 71] (by decide +kernel) (by decide +kernel)
set_option maxRecDepth 20000 in
theorem gX6_takeBack_X6_goes : GoodIn wsX6_takeBack (wsV RX6 56 RX6 yX6_goes wsX6_goes) := goodIn_app (goodIn_of _ (by decide +kernel)) ggX6_takeBack_X6_goes
set_option maxRecDepth 20000 in
theorem ggX6_takeBack_X6_paidBy : GoodIn wsX6_takeBack wsX6_paidBy := goodIn_r _ [11, 12, 13, 14, 15, 5, 16, 17, 18, 19, 20, 21, 22, 23, 24, 25, 26, 27, 28, 29, 30, 31, 32, 33, 34, 35, 36, 37, 38, 39, 40, 41, 42, 43, 44, 45, 46, 47, 48, 49, 50, 51, 52, 53, 54, 55, 56, 57, 58, 59, 60, 61, 62, 63, 64, 65, 66, 67, 68, 69, 70, 71] (by decide +kernel) (by decide +kernel)
set_option maxRecDepth 20000 in
theorem gX6_takeBack_X6_paidBy : GoodIn wsX6_takeBack (wsV RX6 107 RX6 yX6_paidBy wsX6_paidBy) := goodIn_app (goodIn_of _ (by decide +kernel)) ggX6_takeBack_X6_paidBy
theorem dX6_takeBack_0 : decode cX6_takeBack 0 = .ok (.aload_n 0, 1) := by decide +kernel
theorem dX6_takeBack_1 : decode cX6_takeBack 1 = .ok (.aload_n 0, 1) := by decide +kernel
theorem dX6_takeBack_2 : decode cX6_takeBack 2 = .ok (.getfield 60, 3) := by decide +kernel
theorem dX6_takeBack_5 : decode cX6_takeBack 5 = .ok (.ifCond .ne 7, 3) := by decide +kernel
theorem dX6_takeBack_8 : decode cX6_takeBack 8 = .ok (.iconst 1, 1) := by decide +kernel
theorem dX6_takeBack_9 : decode cX6_takeBack 9 = .ok (.goto 4, 3) := by decide +kernel
theorem dX6_takeBack_12 : decode cX6_takeBack 12 = .ok (.iconst 0, 1) := by decide +kernel
theorem dX6_takeBack_13 : decode cX6_takeBack 13 = .ok (.invokevirtual 56, 3) := by decide +kernel
theorem dX6_takeBack_16 : decode cX6_takeBack 16 = .ok (.ifCond .ne 5, 3) := by decide +kernel
theorem dX6_takeBack_19 : decode cX6_takeBack 19 = .ok (.iconst 0, 1) := by decide +kernel
theorem dX6_takeBack_20 : decode cX6_takeBack 20 = .ok (.ireturn, 1) := by decide +kernel
theorem dX6_takeBack_21 : decode cX6_takeBack 21 = .ok (.aload_n 0, 1) := by decide +kernel
theorem dX6_takeBack_22 : decode cX6_takeBack 22 = .ok (.aload_n 0, 1) := by decide +kernel
theorem dX6_takeBack_23 : decode cX6_takeBack 23 = .ok (.getfield 60, 3) := by decide +kernel
theorem dX6_takeBack_26 : decode cX6_takeBack 26 = .ok (.invokevirtual 107, 3) := by decide +kernel
theorem dX6_takeBack_29 : decode cX6_takeBack 29 = .ok (.istore_n 1, 1) := by decide +kernel
theorem dX6_takeBack_30 : decode cX6_takeBack 30 = .ok (.aload_n 0, 1) := by decide +kernel
theorem dX6_takeBack_31 : decode cX6_takeBack 31 = .ok (.dup, 1) := by decide +kernel
theorem dX6_takeBack_32 : decode cX6_takeBack 32 = .ok (.getfield 60, 3) := by decide +kernel
theorem dX6_takeBack_35 : decode cX6_takeBack 35 = .ok (.iconst 1, 1) := by decide +kernel
theorem dX6_takeBack_36 : decode cX6_takeBack 36 = .ok (.isub, 1) := by decide +kernel
theorem dX6_takeBack_37 : decode cX6_takeBack 37 = .ok (.putfield 60, 3) := by decide +kernel
theorem dX6_takeBack_40 : decode cX6_takeBack 40 = .ok (.iload_n 1, 1) := by decide +kernel
theorem dX6_takeBack_41 : decode cX6_takeBack 41 = .ok (.aload_n 0, 1) := by decide +kernel
theorem dX6_takeBack_42 : decode cX6_takeBack 42 = .ok (.aload_n 0, 1) := by decide +kernel
theorem dX6_takeBack_43 : decode cX6_takeBack 43 = .ok (.getfield 60, 3) := by decide +kernel
theorem dX6_takeBack_46 : decode cX6_takeBack 46 = .ok (.invokevirtual 107, 3) := by decide +kernel
theorem dX6_takeBack_49 : decode cX6_takeBack 49 = .ok (.isub, 1) := by decide +kernel
theorem dX6_takeBack_50 : decode cX6_takeBack 50 = .ok (.ireturn, 1) := by decide +kernel
theorem dX6_told_0 : decode cX6_told 0 = .ok (.aload_n 0, 1) := by decide +kernel
theorem dX6_told_1 : decode cX6_told 1 = .ok (.iconst 0, 1) := by decide +kernel
theorem dX6_told_2 : decode cX6_told 2 = .ok (.putfield 49, 3) := by decide +kernel
theorem dX6_told_5 : decode cX6_told 5 = .ok (.aload_n 0, 1) := by decide +kernel
theorem dX6_told_6 : decode cX6_told 6 = .ok (.getfield 60, 3) := by decide +kernel
theorem dX6_told_9 : decode cX6_told 9 = .ok (.ireturn, 1) := by decide +kernel
set_option maxRecDepth 20000 in
theorem ggX6_price_X6_runs : GoodIn wsX6_price wsX6_runs := goodIn_r _ [7, 2, 8, 9, 10, 11, 12, 13, 14, 15, 16, 17, 6, 18, 19, 20, 21, 22, 23, 24, 25, 26, 27, 28, 29, 30, 31, 32, 33, 34, 35, 36, 37, 38, 39, 40, 49, 50, 51, 52, 53, 54, 55, 56, 57, 58, 59, 60, 61, 62, 63, 64, 65, 66, 67, 68, 69, 70] (by decide +kernel) (by decide +kernel)
set_option maxRecDepth 20000 in
theorem gX6_price_X6_runs : GoodIn wsX6_price (wsV RX6 103 RX6 yX6_runs wsX6_runs) := goodIn_app (goodIn_of _ (by decide +kernel)) ggX6_price_X6_runs
set_option maxRecDepth 20000 in
theorem ggX6_price_X6_isIn : GoodIn wsX6_price wsX6_isIn := goodIn_r _ [43] (by decide +kernel) (by decide +kernel)
set_option maxRecDepth 20000 in
theorem gX6_price_X6_isIn : GoodIn wsX6_price (va_wsS RX6 52 yX6_isIn wsX6_isIn) := goodIn_app (goodIn_of _ (by decide +kernel)) ggX6_price_X6_isIn
set_option maxRecDepth 20000 in
theorem ggX6_price_X6_goes : GoodIn wsX6_price wsX6_goes := goodIn_r _ [47, 48, 49, 50, 51, 52, 53, 54, 55, 56, 57, 58, 59, 60, 61, 62, 63, 64, 65, 66, 67, 68, 69, 70] (by decide +kernel) (by decide +kernel)
set_option maxRecDepth 20000 in
theorem gX6_price_X6_goes : GoodIn wsX6_price (wsV RX6 56 RX6 yX6_goes wsX6_goes) := goodIn_app (goodIn_of _ (by decide +kernel)) ggX6_price_X6_goes
theorem dX6_price_0 : decode cX6_price 0 = .ok (.aload_n 0, 1) := by decide +kernel
theorem dX6_price_1 : decode cX6_price 1 = .ok (.aload_n 0, 1) := by decide +kernel
theorem dX6_price_2 : decode cX6_price 2 = .ok (.getfield 60, 3) := by decide +kernel
theorem dX6_price_5 : decode cX6_price 5 = .ok (.invokevirtual 103, 3) := by decide +kernel
theorem dX6_price_8 : decode cX6_price 8 = .ok (.aload_n 0, 1) := by decide +kernel
theorem dX6_price_9 : decode cX6_price 9 = .ok (.iload_n 1, 1) := by decide +kernel
theorem dX6_price_10 : decode cX6_price 10 = .ok (.iconst 0, 1) := by decide +kernel
theorem dX6_price_11 : decode cX6_price 11 = .ok (.iconst 1, 1) := by decide +kernel
theorem dX6_price_12 : decode cX6_price 12 = .ok (.invokestatic 52, 3) := by decide +kernel
theorem dX6_price_15 : decode cX6_price 15 = .ok (.ifCond .eq 7, 3) := by decide +kernel
theorem dX6_price_18 : decode cX6_price 18 = .ok (.iconst 0, 1) := by decide +kernel
theorem dX6_price_19 : decode cX6_price 19 = .ok (.goto 4, 3) := by decide +kernel
theorem dX6_price_22 : decode cX6_price 22 = .ok (.iconst 1, 1) := by decide +kernel
theorem dX6_price_23 : decode cX6_price 23 = .ok (.invokevirtual 56, 3) := by decide +kernel
theorem dX6_price_26 : decode cX6_price 26 = .ok (.ifCond .eq 12, 3) := by decide +kernel
theorem dX6_price_29 : decode cX6_price 29 = .ok (.aload_n 0, 1) := by decide +kernel
theorem dX6_price_30 : decode cX6_price 30 = .ok (.getfield 42, 3) := by decide +kernel
theorem dX6_price_33 : decode cX6_price 33 = .ok (.iload_n 1, 1) := by decide +kernel
theorem dX6_price_34 : decode cX6_price 34 = .ok (.iaload, 1) := by decide +kernel
theorem dX6_price_35 : decode cX6_price 35 = .ok (.goto 4, 3) := by decide +kernel
theorem dX6_price_38 : decode cX6_price 38 = .ok (.iconst 0, 1) := by decide +kernel
theorem dX6_price_39 : decode cX6_price 39 = .ok (.ireturn, 1) := by decide +kernel
set_option maxRecDepth 20000 in
theorem ggX6_worst_X6_runs : GoodIn wsX6_worst wsX6_runs := goodIn_r _ [7, 8, 9, 10, 11, 12, 13, 14, 15, 16, 17, 18, 6, 19, 20, 21, 22, 23, 24, 25, 26, 27, 28, 29, 30, 31, 32, 33, 34, 35, 36, 37, 38, 39, 40, 41, 42, 43, 44, 45, 46, 47, 48, 49, 50, 51, 52, 53, 54, 55, 56, 57, 58, 59, 60, 61, 62, 63] (by decide +kernel) (by decide +kernel)
set_option maxRecDepth 20000 in
theorem gX6_worst_X6_runs : GoodIn wsX6_worst (wsV RX6 103 RX6 yX6_runs wsX6_runs) := goodIn_app (goodIn_of _ (by decide +kernel)) ggX6_worst_X6_runs
set_option maxRecDepth 20000 in
theorem ggX6_worst_X6_worstNow : GoodIn wsX6_worst wsX6_worstNow := goodIn_r _ [37, 38, 39, 40, 6, 41, 8, 9, 42, 43, 44, 45, 46, 47, 48, 49, 50, 51, 52, 53, 54, 55, 56, 57, 58, 59, 60, 61, 62, 63] (by decide +kernel) (by decide +kernel)
set_option maxRecDepth 20000 in
theorem gX6_worst_X6_worstNow : GoodIn wsX6_worst (wsV RX6 83 RX6 yX6_worstNow wsX6_worstNow) := goodIn_app (goodIn_of _ (by decide +kernel)) ggX6_worst_X6_worstNow
theorem dX6_worst_0 : decode cX6_worst 0 = .ok (.aload_n 0, 1) := by decide +kernel
theorem dX6_worst_1 : decode cX6_worst 1 = .ok (.iconst 0, 1) := by decide +kernel
theorem dX6_worst_2 : decode cX6_worst 2 = .ok (.putfield 49, 3) := by decide +kernel
theorem dX6_worst_5 : decode cX6_worst 5 = .ok (.aload_n 0, 1) := by decide +kernel
theorem dX6_worst_6 : decode cX6_worst 6 = .ok (.aload_n 0, 1) := by decide +kernel
theorem dX6_worst_7 : decode cX6_worst 7 = .ok (.getfield 60, 3) := by decide +kernel
theorem dX6_worst_10 : decode cX6_worst 10 = .ok (.invokevirtual 103, 3) := by decide +kernel
theorem dX6_worst_13 : decode cX6_worst 13 = .ok (.aload_n 0, 1) := by decide +kernel
theorem dX6_worst_14 : decode cX6_worst 14 = .ok (.invokevirtual 83, 3) := by decide +kernel
theorem dX6_worst_17 : decode cX6_worst 17 = .ok (.ireturn, 1) := by decide +kernel
set_option maxRecDepth 20000 in
theorem ggX6_isKnocked_X6_runs : GoodIn wsX6_isKnocked wsX6_runs := goodIn_r _ [8, 9, 10, 11, 3, 12, 13, 14, 15, 16, 17, 18, 7, 19, 20, 21, 22, 23, 24, 25, 26, 27, 28, 29, 30, 31, 32, 33, 34, 35, 36, 37, 38, 39, 40, 41, 42, 43, 44, 45, 46, 47, 48, 49, 50, 51, 52, 53, 54, 55, 56, 57, 58, 59, 60, 61, 62, 63] (by decide +kernel) (by decide +kernel)
set_option maxRecDepth 20000 in
theorem gX6_isKnocked_X6_runs : GoodIn wsX6_isKnocked (wsV RX6 103 RX6 yX6_runs wsX6_runs) := goodIn_app (goodIn_of _ (by decide +kernel)) ggX6_isKnocked_X6_runs
theorem dX6_isKnocked_0 : decode cX6_isKnocked 0 = .ok (.aload_n 0, 1) := by decide +kernel
theorem dX6_isKnocked_1 : decode cX6_isKnocked 1 = .ok (.iconst 0, 1) := by decide +kernel
theorem dX6_isKnocked_2 : decode cX6_isKnocked 2 = .ok (.putfield 49, 3) := by decide +kernel
theorem dX6_isKnocked_5 : decode cX6_isKnocked 5 = .ok (.aload_n 0, 1) := by decide +kernel
theorem dX6_isKnocked_6 : decode cX6_isKnocked 6 = .ok (.aload_n 0, 1) := by decide +kernel
theorem dX6_isKnocked_7 : decode cX6_isKnocked 7 = .ok (.getfield 60, 3) := by decide +kernel
theorem dX6_isKnocked_10 : decode cX6_isKnocked 10 = .ok (.invokevirtual 103, 3) := by decide +kernel
theorem dX6_isKnocked_13 : decode cX6_isKnocked 13 = .ok (.aload_n 0, 1) := by decide +kernel
theorem dX6_isKnocked_14 : decode cX6_isKnocked 14 = .ok (.getfield 87, 3) := by decide +kernel
theorem dX6_isKnocked_17 : decode cX6_isKnocked 17 = .ok (.ireturn, 1) := by decide +kernel
set_option maxRecDepth 20000 in
theorem ggX6_missed_X6_runs : GoodIn wsX6_missed wsX6_runs := goodIn_r _ [8, 9, 10, 3, 11, 12, 13, 14, 15, 16, 17, 18, 7, 19, 20, 21, 22, 23, 24, 25, 26, 27, 28, 29, 30, 31, 32, 33, 34, 35, 36, 37, 38, 39, 40, 41, 42, 43, 44, 45, 46, 47, 48, 49, 50, 51, 52, 53, 54, 55, 56, 57, 58, 59, 60, 61, 62, 63] (by decide +kernel) (by decide +kernel)
set_option maxRecDepth 20000 in
theorem gX6_missed_X6_runs : GoodIn wsX6_missed (wsV RX6 103 RX6 yX6_runs wsX6_runs) := goodIn_app (goodIn_of _ (by decide +kernel)) ggX6_missed_X6_runs
theorem dX6_missed_0 : decode cX6_missed 0 = .ok (.aload_n 0, 1) := by decide +kernel
theorem dX6_missed_1 : decode cX6_missed 1 = .ok (.iconst 0, 1) := by decide +kernel
theorem dX6_missed_2 : decode cX6_missed 2 = .ok (.putfield 49, 3) := by decide +kernel
theorem dX6_missed_5 : decode cX6_missed 5 = .ok (.aload_n 0, 1) := by decide +kernel
theorem dX6_missed_6 : decode cX6_missed 6 = .ok (.aload_n 0, 1) := by decide +kernel
theorem dX6_missed_7 : decode cX6_missed 7 = .ok (.getfield 60, 3) := by decide +kernel
theorem dX6_missed_10 : decode cX6_missed 10 = .ok (.invokevirtual 103, 3) := by decide +kernel
theorem dX6_missed_13 : decode cX6_missed 13 = .ok (.aload_n 0, 1) := by decide +kernel
theorem dX6_missed_14 : decode cX6_missed 14 = .ok (.getfield 93, 3) := by decide +kernel
theorem dX6_missed_17 : decode cX6_missed 17 = .ok (.ireturn, 1) := by decide +kernel
set_option maxRecDepth 20000 in
theorem ggX6_paid_X6_paidBy : GoodIn wsX6_paid wsX6_paidBy := goodIn_r _ [7, 8, 9, 10, 11, 6, 12, 13, 14, 15, 16, 17, 18, 19, 20, 21, 22, 23, 24, 25, 26, 27, 28, 29, 30, 31, 32, 33, 34, 35, 36, 37, 38, 39, 40, 41, 42, 43, 44, 45, 46, 47, 48, 49, 50, 51, 52, 53, 54, 55, 56, 57, 58, 59, 60, 61, 62, 63, 64, 65, 66, 67] (by decide +kernel) (by decide +kernel)
set_option maxRecDepth 20000 in
theorem gX6_paid_X6_paidBy : GoodIn wsX6_paid (wsV RX6 107 RX6 yX6_paidBy wsX6_paidBy) := goodIn_app (goodIn_of _ (by decide +kernel)) ggX6_paid_X6_paidBy
theorem dX6_paid_0 : decode cX6_paid 0 = .ok (.aload_n 0, 1) := by decide +kernel
theorem dX6_paid_1 : decode cX6_paid 1 = .ok (.iconst 0, 1) := by decide +kernel
theorem dX6_paid_2 : decode cX6_paid 2 = .ok (.putfield 49, 3) := by decide +kernel
theorem dX6_paid_5 : decode cX6_paid 5 = .ok (.aload_n 0, 1) := by decide +kernel
theorem dX6_paid_6 : decode cX6_paid 6 = .ok (.aload_n 0, 1) := by decide +kernel
theorem dX6_paid_7 : decode cX6_paid 7 = .ok (.getfield 60, 3) := by decide +kernel
theorem dX6_paid_10 : decode cX6_paid 10 = .ok (.invokevirtual 107, 3) := by decide +kernel
theorem dX6_paid_13 : decode cX6_paid 13 = .ok (.ireturn, 1) := by decide +kernel
set_option maxRecDepth 20000 in
theorem ggX6_isOverNow_X6_runs : GoodIn wsX6_isOverNow wsX6_runs := goodIn_r _ [7, 8, 9, 10, 11, 2, 12, 13, 14, 15, 16, 17, 6, 18, 19, 20, 21, 22, 23, 24, 25, 26, 27, 28, 29, 30, 31, 32, 33, 34, 35, 36, 37, 38, 39, 40, 41, 42, 43, 44, 45, 46, 47, 48, 49, 50, 51, 52, 53, 54, 55, 56, 57, 58, 59, 60, 61, 62] (by decide +kernel) (by decide +kernel)
set_option maxRecDepth 20000 in
theorem gX6_isOverNow_X6_runs : GoodIn wsX6_isOverNow (wsV RX6 103 RX6 yX6_runs wsX6_runs) := goodIn_app (goodIn_of _ (by decide +kernel)) ggX6_isOverNow_X6_runs
theorem dX6_isOverNow_0 : decode cX6_isOverNow 0 = .ok (.aload_n 0, 1) := by decide +kernel
theorem dX6_isOverNow_1 : decode cX6_isOverNow 1 = .ok (.aload_n 0, 1) := by decide +kernel
theorem dX6_isOverNow_2 : decode cX6_isOverNow 2 = .ok (.getfield 60, 3) := by decide +kernel
theorem dX6_isOverNow_5 : decode cX6_isOverNow 5 = .ok (.invokevirtual 103, 3) := by decide +kernel
theorem dX6_isOverNow_8 : decode cX6_isOverNow 8 = .ok (.aload_n 0, 1) := by decide +kernel
theorem dX6_isOverNow_9 : decode cX6_isOverNow 9 = .ok (.getfield 96, 3) := by decide +kernel
theorem dX6_isOverNow_12 : decode cX6_isOverNow 12 = .ok (.ireturn, 1) := by decide +kernel
set_option maxRecDepth 20000 in
theorem ggX6_isOver_X6_isOverNow : GoodIn wsX6_isOver wsX6_isOverNow := goodIn_r _ [6, 7, 8, 9, 10, 11, 5, 12, 13, 14, 15, 16, 17, 18, 19, 20, 21, 22, 23, 24, 25, 26, 27, 28, 29, 30, 31, 32, 33, 34, 35, 36, 37, 38, 39, 40, 41, 42, 43, 44, 45, 46, 47, 48, 49, 50, 51, 52, 53, 54, 55, 56, 57, 58, 59, 60, 61, 62, 63, 64, 65, 66, 67] (by decide +kernel) (by decide +kernel)
set_option maxRecDepth 20000 in
theorem gX6_isOver_X6_isOverNow : GoodIn wsX6_isOver (wsV RX6 110 RX6 yX6_isOverNow wsX6_isOverNow) := goodIn_app (goodIn_of _ (by decide +kernel)) ggX6_isOver_X6_isOverNow
theorem dX6_isOver_0 : decode cX6_isOver 0 = .ok (.aload_n 0, 1) := by decide +kernel
theorem dX6_isOver_1 : decode cX6_isOver 1 = .ok (.iconst 0, 1) := by decide +kernel
theorem dX6_isOver_2 : decode cX6_isOver 2 = .ok (.putfield 49, 3) := by decide +kernel
theorem dX6_isOver_5 : decode cX6_isOver 5 = .ok (.aload_n 0, 1) := by decide +kernel
theorem dX6_isOver_6 : decode cX6_isOver 6 = .ok (.invokevirtual 110, 3) := by decide +kernel
theorem dX6_isOver_9 : decode cX6_isOver 9 = .ok (.ireturn, 1) := by decide +kernel
set_option maxRecDepth 20000 in
theorem ggX6_rows_X6_isOverNow : GoodIn wsX6_rows wsX6_isOverNow := goodIn_r _ [7, 2, 8, 9, 10, 11, 6, 12, 13, 14, 15, 16, 17, 18, 19, 20, 21, 22, 23, 24, 1, 25, 26, 27, 28, 29, 30, 31, 32, 33, 34, 35, 36, 37, 38, 39, 40, 41, 42, 43, 44, 45, 46, 47, 48, 49, 50, 51, 52, 53, 54, 55, 56, 57, 58, 59, 60, 61, 62, 63, 64, 65, 66] (by decide +kernel) (by decide +kernel)
set_option maxRecDepth 20000 in
theorem gX6_rows_X6_isOverNow : GoodIn wsX6_rows (wsV RX6 110 RX6 yX6_isOverNow wsX6_isOverNow) := goodIn_app (goodIn_of _ (by decide +kernel)) ggX6_rows_X6_isOverNow
theorem dX6_rows_0 : decode cX6_rows 0 = .ok (.aload_n 0, 1) := by decide +kernel
theorem dX6_rows_1 : decode cX6_rows 1 = .ok (.invokevirtual 110, 3) := by decide +kernel
theorem dX6_rows_4 : decode cX6_rows 4 = .ok (.ifCond .eq 7, 3) := by decide +kernel
theorem dX6_rows_7 : decode cX6_rows 7 = .ok (.iconst 1, 1) := by decide +kernel
theorem dX6_rows_8 : decode cX6_rows 8 = .ok (.goto 14, 3) := by decide +kernel
theorem dX6_rows_11 : decode cX6_rows 11 = .ok (.iconst 1, 1) := by decide +kernel
theorem dX6_rows_12 : decode cX6_rows 12 = .ok (.aload_n 0, 1) := by decide +kernel
theorem dX6_rows_13 : decode cX6_rows 13 = .ok (.getfield 23, 3) := by decide +kernel
theorem dX6_rows_16 : decode cX6_rows 16 = .ok (.aload_n 0, 1) := by decide +kernel
theorem dX6_rows_17 : decode cX6_rows 17 = .ok (.getfield 60, 3) := by decide +kernel
theorem dX6_rows_20 : decode cX6_rows 20 = .ok (.isub, 1) := by decide +kernel
theorem dX6_rows_21 : decode cX6_rows 21 = .ok (.ishl, 1) := by decide +kernel
theorem dX6_rows_22 : decode cX6_rows 22 = .ok (.ireturn, 1) := by decide +kernel
