theorem wsL_law_f_wsX50 : ∀ w ∈ wsX50, w ∈ lw_tbl := by decide +kernel
theorem wsL_law_f_wsX20 : ∀ w ∈ wsX20, w ∈ lw_tbl := by decide +kernel
theorem wsL_law_f_wsX30 : ∀ w ∈ wsX30, w ∈ lw_tbl := by decide +kernel
theorem wsL_law_f_wsX40 : ∀ w ∈ wsX40, w ∈ lw_tbl := by decide +kernel
theorem wsL_law_f_wsX00 : ∀ w ∈ wsX00, w ∈ lw_tbl := by decide +kernel
theorem wsL_law_f_wsX10 : ∀ w ∈ wsX10, w ∈ lw_tbl := by decide +kernel
theorem wsL_law_in0 : ∀ w ∈ wsL_law0, w ∈ lw_tbl := by
  unfold wsL_law0
  exact List.forall_mem_append.mpr ⟨List.forall_mem_append.mpr ⟨List.forall_mem_append.mpr ⟨List.forall_mem_append.mpr ⟨List.forall_mem_append.mpr ⟨List.forall_mem_append.mpr ⟨List.forall_mem_append.mpr ⟨List.forall_mem_append.mpr ⟨wsL_law0_r1_in, List.forall_mem_append.mpr ⟨wsL_law0_r2_in, List.forall_mem_append.mpr ⟨wsL_law0_r3_in, List.forall_mem_append.mpr ⟨wsL_law0_r4_in, List.forall_mem_append.mpr ⟨wsL_law0_r5_in, List.forall_mem_append.mpr ⟨wsL_law0_r6_in, List.forall_mem_append.mpr ⟨wsL_law0_r7_in, List.forall_mem_append.mpr ⟨wsL_law0_r8_in, List.forall_mem_append.mpr ⟨wsL_law0_r9_in, List.forall_mem_append.mpr ⟨wsL_law0_r10_in, List.forall_mem_append.mpr ⟨wsL_law0_r11_in, List.forall_mem_append.mpr ⟨wsL_law0_r12_in, List.forall_mem_append.mpr ⟨wsL_law0_r13_in, List.forall_mem_append.mpr ⟨wsL_law0_r14_in, List.forall_mem_append.mpr ⟨wsL_law0_r15_in, List.forall_mem_append.mpr ⟨wsL_law0_r16_in, wsL_law0_r17_in⟩⟩⟩⟩⟩⟩⟩⟩⟩⟩⟩⟩⟩⟩⟩⟩, wsL_law_f_wsX50⟩, wsL_law_f_wsX20⟩, wsL_law_f_wsX30⟩, wsL_law_f_wsX40⟩, wsL_law_f_wsX00⟩, wsL_law_f_wsX10⟩, fun _ h => absurd h List.not_mem_nil⟩
theorem wsL_law_x0 : ∀ w ∈ (vx_atS RX5 45 "java/lang/IndexOutOfBoundsException" ["java/lang/RuntimeException", "java/lang/Exception"]).filter goodWord, w ∈ lw_tbl := by decide +kernel
theorem wsL_law_x1 : ∀ w ∈ (vx_atS RX5 56 "java/lang/IllegalArgumentException" ["java/lang/RuntimeException", "java/lang/Exception"]).filter goodWord, w ∈ lw_tbl := by decide +kernel
theorem wsL_law_x2 : ∀ w ∈ (vx_atS RX5 118 "java/lang/IllegalStateException" ["java/lang/RuntimeException", "java/lang/Exception"]).filter goodWord, w ∈ lw_tbl := by decide +kernel
theorem wsL_law_in : ∀ w ∈ wsL_law, w ∈ lw_tbl := fun w h => (List.mem_append.mp h).elim (fun h => (List.mem_append.mp h).elim (fun h => (List.mem_append.mp h).elim (fun h => wsL_law_in0 w h) (fun h => wsL_law_x0 w h)) (fun h => wsL_law_x1 w h)) (fun h => wsL_law_x2 w h)
theorem inlX0 : ∀ w ∈ wsX00, w ∈ wsL_law := fun _ h => List.mem_append_left _ (List.mem_append_left _ (List.mem_append_left _ (List.mem_append_left _ (List.mem_append_left _ (List.mem_append_right _ h)))))
theorem inX0 : ∀ w ∈ wsX00, w ∈ lw_tbl := fun w h => wsL_law_in w (inlX0 w h)
theorem inlX1 : ∀ w ∈ wsX10, w ∈ wsL_law := fun _ h => List.mem_append_left _ (List.mem_append_left _ (List.mem_append_left _ (List.mem_append_left _ (List.mem_append_right _ h))))
theorem inX1 : ∀ w ∈ wsX10, w ∈ lw_tbl := fun w h => wsL_law_in w (inlX1 w h)
theorem inlX2 : ∀ w ∈ wsX20, w ∈ wsL_law := fun _ h => List.mem_append_left _ (List.mem_append_left _ (List.mem_append_left _ (List.mem_append_left _ (List.mem_append_left _ (List.mem_append_left _ (List.mem_append_left _ (List.mem_append_left _ (List.mem_append_right _ h))))))))
theorem inX2 : ∀ w ∈ wsX20, w ∈ lw_tbl := fun w h => wsL_law_in w (inlX2 w h)
theorem inlX3 : ∀ w ∈ wsX30, w ∈ wsL_law := fun _ h => List.mem_append_left _ (List.mem_append_left _ (List.mem_append_left _ (List.mem_append_left _ (List.mem_append_left _ (List.mem_append_left _ (List.mem_append_left _ (List.mem_append_right _ h)))))))
theorem inX3 : ∀ w ∈ wsX30, w ∈ lw_tbl := fun w h => wsL_law_in w (inlX3 w h)
theorem inlX4 : ∀ w ∈ wsX40, w ∈ wsL_law := fun _ h => List.mem_append_left _ (List.mem_append_left _ (List.mem_append_left _ (List.mem_append_left _ (List.mem_append_left _ (List.mem_append_left _ (List.mem_append_right _ h))))))
theorem inX4 : ∀ w ∈ wsX40, w ∈ lw_tbl := fun w h => wsL_law_in w (inlX4 w h)
theorem inlX5 : ∀ w ∈ wsX50, w ∈ wsL_law := fun _ h => List.mem_append_left _ (List.mem_append_left _ (List.mem_append_left _ (List.mem_append_left _ (List.mem_append_left _ (List.mem_append_left _ (List.mem_append_left _ (List.mem_append_left _ (List.mem_append_left _ (List.mem_append_right _ h)))))))))
theorem inX5 : ∀ w ∈ wsX50, w ∈ lw_tbl := fun w h => wsL_law_in w (inlX5 w h)
theorem inX6 : ∀ w ∈ wsX60, w ∈ lw_tbl := by decide +kernel
theorem inJ9 : ∀ w ∈ wsJ90, w ∈ lw_tbl := by decide +kernel
theorem inJ0 : ∀ w ∈ wsJ00, w ∈ lw_tbl := by decide +kernel
theorem dX0_init_0 : decode cX0_init 0 = .ok (.aload_n 0, 1) := by decide +kernel
theorem dX0_init_1 : decode cX0_init 1 = .ok (.invokespecial 3, 3) := by decide +kernel
theorem dX0_init_4 : decode cX0_init 4 = .ok (.aload_n 0, 1) := by decide +kernel
theorem dX0_init_5 : decode cX0_init 5 = .ok (.sipush 500, 3) := by decide +kernel
theorem dX0_init_8 : decode cX0_init 8 = .ok (.putfield 9, 3) := by decide +kernel
theorem dX0_init_11 : decode cX0_init 11 = .ok (.aload_n 0, 1) := by decide +kernel
theorem dX0_init_12 : decode cX0_init 12 = .ok (.bipush 50, 2) := by decide +kernel
theorem dX0_init_14 : decode cX0_init 14 = .ok (.putfield 15, 3) := by decide +kernel
theorem dX0_init_17 : decode cX0_init 17 = .ok (.aload_n 0, 1) := by decide +kernel
theorem dX0_init_18 : decode cX0_init 18 = .ok (.bipush 40, 2) := by decide +kernel
theorem dX0_init_20 : decode cX0_init 20 = .ok (.putfield 18, 3) := by decide +kernel
theorem dX0_init_23 : decode cX0_init 23 = .ok (.return_, 1) := by decide +kernel
theorem dX0_priceBehind_0 : decode cX0_priceBehind 0 = .ok (.iload_n 2, 1) := by decide +kernel
theorem dX0_priceBehind_1 : decode cX0_priceBehind 1 = .ok (.ifCond .eq 12, 3) := by decide +kernel
theorem dX0_priceBehind_4 : decode cX0_priceBehind 4 = .ok (.iload_n 1, 1) := by decide +kernel
theorem dX0_priceBehind_5 : decode cX0_priceBehind 5 = .ok (.aload_n 0, 1) := by decide +kernel
theorem dX0_priceBehind_6 : decode cX0_priceBehind 6 = .ok (.getfield 15, 3) := by decide +kernel
theorem dX0_priceBehind_9 : decode cX0_priceBehind 9 = .ok (.iadd, 1) := by decide +kernel
theorem dX0_priceBehind_10 : decode cX0_priceBehind 10 = .ok (.goto 13, 3) := by decide +kernel
theorem dX0_priceBehind_13 : decode cX0_priceBehind 13 = .ok (.iconst 1, 1) := by decide +kernel
theorem dX0_priceBehind_14 : decode cX0_priceBehind 14 = .ok (.iload_n 1, 1) := by decide +kernel
theorem dX0_priceBehind_15 : decode cX0_priceBehind 15 = .ok (.aload_n 0, 1) := by decide +kernel
theorem dX0_priceBehind_16 : decode cX0_priceBehind 16 = .ok (.getfield 18, 3) := by decide +kernel
theorem dX0_priceBehind_19 : decode cX0_priceBehind 19 = .ok (.isub, 1) := by decide +kernel
theorem dX0_priceBehind_20 : decode cX0_priceBehind 20 = .ok (.invokestatic 21, 3) := by decide +kernel
theorem dX0_priceBehind_23 : decode cX0_priceBehind 23 = .ok (.ireturn, 1) := by decide +kernel
theorem dX0_levelAt_0 : decode cX0_levelAt 0 = .ok (.aload_n 0, 1) := by decide +kernel
theorem dX0_levelAt_1 : decode cX0_levelAt 1 = .ok (.getfield 9, 3) := by decide +kernel
theorem dX0_levelAt_4 : decode cX0_levelAt 4 = .ok (.bipush 100, 2) := by decide +kernel
theorem dX0_levelAt_6 : decode cX0_levelAt 6 = .ok (.if_icmp .ge 7, 3) := by decide +kernel
theorem dX0_levelAt_9 : decode cX0_levelAt 9 = .ok (.iconst 0, 1) := by decide +kernel
theorem dX0_levelAt_10 : decode cX0_levelAt 10 = .ok (.goto 12, 3) := by decide +kernel
theorem dX0_levelAt_13 : decode cX0_levelAt 13 = .ok (.iload_n 1, 1) := by decide +kernel
theorem dX0_levelAt_14 : decode cX0_levelAt 14 = .ok (.bipush 100, 2) := by decide +kernel
theorem dX0_levelAt_16 : decode cX0_levelAt 16 = .ok (.imul, 1) := by decide +kernel
theorem dX0_levelAt_17 : decode cX0_levelAt 17 = .ok (.aload_n 0, 1) := by decide +kernel
theorem dX0_levelAt_18 : decode cX0_levelAt 18 = .ok (.getfield 9, 3) := by decide +kernel
theorem dX0_levelAt_21 : decode cX0_levelAt 21 = .ok (.idiv, 1) := by decide +kernel
theorem dX0_levelAt_22 : decode cX0_levelAt 22 = .ok (.ireturn, 1) := by decide +kernel
theorem dX1_init_0 : decode cX1_init 0 = .ok (.aload_n 0, 1) := by decide +kernel
theorem dX1_init_1 : decode cX1_init 1 = .ok (.invokespecial 3, 3) := by decide +kernel
theorem dX1_init_4 : decode cX1_init 4 = .ok (.aload_n 0, 1) := by decide +kernel
theorem dX1_init_5 : decode cX1_init 5 = .ok (.sipush 256, 3) := by decide +kernel
theorem dX1_init_8 : decode cX1_init 8 = .ok (.newarray .int, 2) := by decide +kernel
theorem dX1_init_10 : decode cX1_init 10 = .ok (.putfield 9, 3) := by decide +kernel
theorem dX1_init_13 : decode cX1_init 13 = .ok (.aload_n 0, 1) := by decide +kernel
theorem dX1_init_14 : decode cX1_init 14 = .ok (.sipush 256, 3) := by decide +kernel
theorem dX1_init_17 : decode cX1_init 17 = .ok (.newarray .int, 2) := by decide +kernel
theorem dX1_init_19 : decode cX1_init 19 = .ok (.putfield 15, 3) := by decide +kernel
theorem dX1_init_22 : decode cX1_init 22 = .ok (.aload_n 0, 1) := by decide +kernel
theorem dX1_init_23 : decode cX1_init 23 = .ok (.sipush 256, 3) := by decide +kernel
theorem dX1_init_26 : decode cX1_init 26 = .ok (.newarray .int, 2) := by decide +kernel
theorem dX1_init_28 : decode cX1_init 28 = .ok (.putfield 18, 3) := by decide +kernel
theorem dX1_init_31 : decode cX1_init 31 = .ok (.aload_n 0, 1) := by decide +kernel
theorem dX1_init_32 : decode cX1_init 32 = .ok (.sipush 256, 3) := by decide +kernel
theorem dX1_init_35 : decode cX1_init 35 = .ok (.newarray .boolean, 2) := by decide +kernel
theorem dX1_init_37 : decode cX1_init 37 = .ok (.putfield 21, 3) := by decide +kernel
theorem dX1_init_40 : decode cX1_init 40 = .ok (.aload_n 0, 1) := by decide +kernel
theorem dX1_init_41 : decode cX1_init 41 = .ok (.sipush 256, 3) := by decide +kernel
theorem dX1_init_44 : decode cX1_init 44 = .ok (.newarray .long, 2) := by decide +kernel
theorem dX1_init_46 : decode cX1_init 46 = .ok (.putfield 25, 3) := by decide +kernel
theorem dX1_init_49 : decode cX1_init 49 = .ok (.aload_n 0, 1) := by decide +kernel
theorem dX1_init_50 : decode cX1_init 50 = .ok (.sipush 256, 3) := by decide +kernel
theorem dX1_init_53 : decode cX1_init 53 = .ok (.newarray .int, 2) := by decide +kernel
theorem dX1_init_55 : decode cX1_init 55 = .ok (.putfield 29, 3) := by decide +kernel
theorem dX1_init_58 : decode cX1_init 58 = .ok (.aload_n 0, 1) := by decide +kernel
theorem dX1_init_59 : decode cX1_init 59 = .ok (.sipush 256, 3) := by decide +kernel
theorem dX1_init_62 : decode cX1_init 62 = .ok (.newarray .int, 2) := by decide +kernel
theorem dX1_init_64 : decode cX1_init 64 = .ok (.putfield 32, 3) := by decide +kernel
theorem dX1_init_67 : decode cX1_init 67 = .ok (.aload_n 0, 1) := by decide +kernel
theorem dX1_init_68 : decode cX1_init 68 = .ok (.iconst 0, 1) := by decide +kernel
theorem dX1_init_69 : decode cX1_init 69 = .ok (.putfield 35, 3) := by decide +kernel
theorem dX1_init_72 : decode cX1_init 72 = .ok (.return_, 1) := by decide +kernel
theorem dX1_holds_0 : decode cX1_holds 0 = .ok (.iload_n 1, 1) := by decide +kernel
theorem dX1_holds_1 : decode cX1_holds 1 = .ok (.ifCond .lt 22, 3) := by decide +kernel
theorem dX1_holds_4 : decode cX1_holds 4 = .ok (.iload_n 1, 1) := by decide +kernel
theorem dX1_holds_5 : decode cX1_holds 5 = .ok (.aload_n 0, 1) := by decide +kernel
theorem dX1_holds_6 : decode cX1_holds 6 = .ok (.getfield 35, 3) := by decide +kernel
theorem dX1_holds_9 : decode cX1_holds 9 = .ok (.if_icmp .ge 14, 3) := by decide +kernel
theorem dX1_holds_12 : decode cX1_holds 12 = .ok (.iload_n 1, 1) := by decide +kernel
theorem dX1_holds_13 : decode cX1_holds 13 = .ok (.sipush 256, 3) := by decide +kernel
theorem dX1_holds_16 : decode cX1_holds 16 = .ok (.if_icmp .ge 7, 3) := by decide +kernel
theorem dX1_holds_19 : decode cX1_holds 19 = .ok (.iconst 1, 1) := by decide +kernel
theorem dX1_holds_20 : decode cX1_holds 20 = .ok (.goto 4, 3) := by decide +kernel
theorem dX1_holds_23 : decode cX1_holds 23 = .ok (.iconst 0, 1) := by decide +kernel
theorem dX1_holds_24 : decode cX1_holds 24 = .ok (.ireturn, 1) := by decide +kernel
set_option maxRecDepth 20000 in
theorem ggX1_add_X1_find : GoodIn wsX1_add wsX1_find := goodIn_r _ [24, 11, 12, 13, 14, 15, 16, 17, 18, 19, 29, 30, 31, 32, 33, 34, 35, 36, 37, 38, 39, 40, 41, 42, 43, 44] (by decide +kernel) (by decide +kernel)
set_option maxRecDepth 20000 in
theorem gX1_add_X1_find : GoodIn wsX1_add (wsV RX1 39 RX1 yX1_find wsX1_find) := goodIn_app (goodIn_of _ (by decide +kernel)) ggX1_add_X1_find
set_option maxRecDepth 20000 in
theorem ggX1_add_X1_holds : GoodIn wsX1_add wsX1_holds := goodIn_r _ [28, 11, 29, 30, 31, 32, 33, 34, 35, 36] (by decide +kernel) (by decide +kernel)
set_option maxRecDepth 20000 in
theorem gX1_add_X1_holds : GoodIn wsX1_add (wsV RX1 43 RX1 yX1_holds wsX1_holds) := goodIn_app (goodIn_of _ (by decide +kernel)) ggX1_add_X1_holds
theorem dX1_add_0 : decode cX1_add 0 = .ok (.aload_n 0, 1) := by decide +kernel
theorem dX1_add_1 : decode cX1_add 1 = .ok (.aload_n 1, 1) := by decide +kernel
theorem dX1_add_2 : decode cX1_add 2 = .ok (.invokevirtual 39, 3) := by decide +kernel
theorem dX1_add_5 : decode cX1_add 5 = .ok (.istore 6, 2) := by decide +kernel
theorem dX1_add_7 : decode cX1_add 7 = .ok (.aload_n 0, 1) := by decide +kernel
theorem dX1_add_8 : decode cX1_add 8 = .ok (.iload 6, 2) := by decide +kernel
theorem dX1_add_10 : decode cX1_add 10 = .ok (.invokevirtual 43, 3) := by decide +kernel
theorem dX1_add_13 : decode cX1_add 13 = .ok (.ifCond .eq 55, 3) := by decide +kernel
theorem dX1_add_16 : decode cX1_add 16 = .ok (.aload_n 0, 1) := by decide +kernel
theorem dX1_add_17 : decode cX1_add 17 = .ok (.getfield 25, 3) := by decide +kernel
theorem dX1_add_20 : decode cX1_add 20 = .ok (.iload 6, 2) := by decide +kernel
theorem dX1_add_22 : decode cX1_add 22 = .ok (.dup2, 1) := by decide +kernel
theorem dX1_add_23 : decode cX1_add 23 = .ok (.laload, 1) := by decide +kernel
theorem dX1_add_24 : decode cX1_add 24 = .ok (.lload_n 2, 1) := by decide +kernel
theorem dX1_add_25 : decode cX1_add 25 = .ok (.ladd, 1) := by decide +kernel
theorem dX1_add_26 : decode cX1_add 26 = .ok (.lastore, 1) := by decide +kernel
theorem dX1_add_27 : decode cX1_add 27 = .ok (.aload_n 0, 1) := by decide +kernel
theorem dX1_add_28 : decode cX1_add 28 = .ok (.getfield 29, 3) := by decide +kernel
theorem dX1_add_31 : decode cX1_add 31 = .ok (.iload 6, 2) := by decide +kernel
theorem dX1_add_33 : decode cX1_add 33 = .ok (.aload_n 0, 1) := by decide +kernel
theorem dX1_add_34 : decode cX1_add 34 = .ok (.getfield 29, 3) := by decide +kernel
theorem dX1_add_37 : decode cX1_add 37 = .ok (.iload 6, 2) := by decide +kernel
theorem dX1_add_39 : decode cX1_add 39 = .ok (.iaload, 1) := by decide +kernel
theorem dX1_add_40 : decode cX1_add 40 = .ok (.iload 4, 2) := by decide +kernel
theorem dX1_add_42 : decode cX1_add 42 = .ok (.invokestatic 47, 3) := by decide +kernel
theorem dX1_add_45 : decode cX1_add 45 = .ok (.iastore, 1) := by decide +kernel
theorem dX1_add_46 : decode cX1_add 46 = .ok (.aload_n 0, 1) := by decide +kernel
theorem dX1_add_47 : decode cX1_add 47 = .ok (.getfield 32, 3) := by decide +kernel
theorem dX1_add_50 : decode cX1_add 50 = .ok (.iload 6, 2) := by decide +kernel
theorem dX1_add_52 : decode cX1_add 52 = .ok (.aload_n 0, 1) := by decide +kernel
theorem dX1_add_53 : decode cX1_add 53 = .ok (.getfield 32, 3) := by decide +kernel
theorem dX1_add_56 : decode cX1_add 56 = .ok (.iload 6, 2) := by decide +kernel
theorem dX1_add_58 : decode cX1_add 58 = .ok (.iaload, 1) := by decide +kernel
theorem dX1_add_59 : decode cX1_add 59 = .ok (.iload 5, 2) := by decide +kernel
theorem dX1_add_61 : decode cX1_add 61 = .ok (.invokestatic 53, 3) := by decide +kernel
theorem dX1_add_64 : decode cX1_add 64 = .ok (.iastore, 1) := by decide +kernel
theorem dX1_add_65 : decode cX1_add 65 = .ok (.goto 114, 3) := by decide +kernel
theorem dX1_add_68 : decode cX1_add 68 = .ok (.aload_n 0, 1) := by decide +kernel
theorem dX1_add_69 : decode cX1_add 69 = .ok (.getfield 35, 3) := by decide +kernel
theorem dX1_add_72 : decode cX1_add 72 = .ok (.ifCond .lt 107, 3) := by decide +kernel
theorem dX1_add_75 : decode cX1_add 75 = .ok (.aload_n 0, 1) := by decide +kernel
theorem dX1_add_76 : decode cX1_add 76 = .ok (.getfield 35, 3) := by decide +kernel
theorem dX1_add_79 : decode cX1_add 79 = .ok (.sipush 256, 3) := by decide +kernel
theorem dX1_add_82 : decode cX1_add 82 = .ok (.if_icmp .ge 97, 3) := by decide +kernel
theorem dX1_add_85 : decode cX1_add 85 = .ok (.aload_n 0, 1) := by decide +kernel
theorem dX1_add_86 : decode cX1_add 86 = .ok (.getfield 9, 3) := by decide +kernel
theorem dX1_add_89 : decode cX1_add 89 = .ok (.aload_n 0, 1) := by decide +kernel
theorem dX1_add_90 : decode cX1_add 90 = .ok (.getfield 35, 3) := by decide +kernel
theorem dX1_add_93 : decode cX1_add 93 = .ok (.aload_n 1, 1) := by decide +kernel
theorem dX1_add_94 : decode cX1_add 94 = .ok (.getfield 56, 3) := by decide +kernel
theorem dX1_add_97 : decode cX1_add 97 = .ok (.iastore, 1) := by decide +kernel
theorem dX1_add_98 : decode cX1_add 98 = .ok (.aload_n 0, 1) := by decide +kernel
theorem dX1_add_99 : decode cX1_add 99 = .ok (.getfield 15, 3) := by decide +kernel
theorem dX1_add_102 : decode cX1_add 102 = .ok (.aload_n 0, 1) := by decide +kernel
theorem dX1_add_103 : decode cX1_add 103 = .ok (.getfield 35, 3) := by decide +kernel
theorem dX1_add_106 : decode cX1_add 106 = .ok (.aload_n 1, 1) := by decide +kernel
theorem dX1_add_107 : decode cX1_add 107 = .ok (.getfield 61, 3) := by decide +kernel
theorem dX1_add_110 : decode cX1_add 110 = .ok (.iastore, 1) := by decide +kernel
theorem dX1_add_111 : decode cX1_add 111 = .ok (.aload_n 0, 1) := by decide +kernel
theorem dX1_add_112 : decode cX1_add 112 = .ok (.getfield 18, 3) := by decide +kernel
theorem dX1_add_115 : decode cX1_add 115 = .ok (.aload_n 0, 1) := by decide +kernel
theorem dX1_add_116 : decode cX1_add 116 = .ok (.getfield 35, 3) := by decide +kernel
theorem dX1_add_119 : decode cX1_add 119 = .ok (.aload_n 1, 1) := by decide +kernel
theorem dX1_add_120 : decode cX1_add 120 = .ok (.getfield 64, 3) := by decide +kernel
theorem dX1_add_123 : decode cX1_add 123 = .ok (.iastore, 1) := by decide +kernel
theorem dX1_add_124 : decode cX1_add 124 = .ok (.aload_n 0, 1) := by decide +kernel
theorem dX1_add_125 : decode cX1_add 125 = .ok (.getfield 21, 3) := by decide +kernel
theorem dX1_add_128 : decode cX1_add 128 = .ok (.aload_n 0, 1) := by decide +kernel
theorem dX1_add_129 : decode cX1_add 129 = .ok (.getfield 35, 3) := by decide +kernel
theorem dX1_add_132 : decode cX1_add 132 = .ok (.aload_n 1, 1) := by decide +kernel
theorem dX1_add_133 : decode cX1_add 133 = .ok (.getfield 67, 3) := by decide +kernel
theorem dX1_add_136 : decode cX1_add 136 = .ok (.bastore, 1) := by decide +kernel
theorem dX1_add_137 : decode cX1_add 137 = .ok (.aload_n 0, 1) := by decide +kernel
theorem dX1_add_138 : decode cX1_add 138 = .ok (.getfield 25, 3) := by decide +kernel
theorem dX1_add_141 : decode cX1_add 141 = .ok (.aload_n 0, 1) := by decide +kernel
theorem dX1_add_142 : decode cX1_add 142 = .ok (.getfield 35, 3) := by decide +kernel
theorem dX1_add_145 : decode cX1_add 145 = .ok (.lload_n 2, 1) := by decide +kernel
theorem dX1_add_146 : decode cX1_add 146 = .ok (.lastore, 1) := by decide +kernel
theorem dX1_add_147 : decode cX1_add 147 = .ok (.aload_n 0, 1) := by decide +kernel
theorem dX1_add_148 : decode cX1_add 148 = .ok (.getfield 29, 3) := by decide +kernel
theorem dX1_add_151 : decode cX1_add 151 = .ok (.aload_n 0, 1) := by decide +kernel
theorem dX1_add_152 : decode cX1_add 152 = .ok (.getfield 35, 3) := by decide +kernel
theorem dX1_add_155 : decode cX1_add 155 = .ok (.iload 4, 2) := by decide +kernel
theorem dX1_add_157 : decode cX1_add 157 = .ok (.iastore, 1) := by decide +kernel
theorem dX1_add_158 : decode cX1_add 158 = .ok (.aload_n 0, 1) := by decide +kernel
theorem dX1_add_159 : decode cX1_add 159 = .ok (.getfield 32, 3) := by decide +kernel
theorem dX1_add_162 : decode cX1_add 162 = .ok (.aload_n 0, 1) := by decide +kernel
theorem dX1_add_163 : decode cX1_add 163 = .ok (.getfield 35, 3) := by decide +kernel
theorem dX1_add_166 : decode cX1_add 166 = .ok (.iload 5, 2) := by decide +kernel
theorem dX1_add_168 : decode cX1_add 168 = .ok (.iastore, 1) := by decide +kernel
theorem dX1_add_169 : decode cX1_add 169 = .ok (.aload_n 0, 1) := by decide +kernel
theorem dX1_add_170 : decode cX1_add 170 = .ok (.dup, 1) := by decide +kernel
theorem dX1_add_171 : decode cX1_add 171 = .ok (.getfield 35, 3) := by decide +kernel
theorem dX1_add_174 : decode cX1_add 174 = .ok (.iconst 1, 1) := by decide +kernel
theorem dX1_add_175 : decode cX1_add 175 = .ok (.iadd, 1) := by decide +kernel
theorem dX1_add_176 : decode cX1_add 176 = .ok (.putfield 35, 3) := by decide +kernel
theorem dX1_add_179 : decode cX1_add 179 = .ok (.return_, 1) := by decide +kernel
theorem dX1_find_0 : decode cX1_find 0 = .ok (.iconst 0, 1) := by decide +kernel
theorem dX1_find_1 : decode cX1_find 1 = .ok (.istore_n 2, 1) := by decide +kernel
theorem dX1_find_2 : decode cX1_find 2 = .ok (.iload_n 2, 1) := by decide +kernel
theorem dX1_find_3 : decode cX1_find 3 = .ok (.aload_n 0, 1) := by decide +kernel
theorem dX1_find_4 : decode cX1_find 4 = .ok (.getfield 35, 3) := by decide +kernel
theorem dX1_find_7 : decode cX1_find 7 = .ok (.if_icmp .ge 70, 3) := by decide +kernel
theorem dX1_find_10 : decode cX1_find 10 = .ok (.iload_n 2, 1) := by decide +kernel
theorem dX1_find_11 : decode cX1_find 11 = .ok (.sipush 256, 3) := by decide +kernel
theorem dX1_find_14 : decode cX1_find 14 = .ok (.if_icmp .ge 63, 3) := by decide +kernel
theorem dX1_find_17 : decode cX1_find 17 = .ok (.aload_n 0, 1) := by decide +kernel
theorem dX1_find_18 : decode cX1_find 18 = .ok (.getfield 9, 3) := by decide +kernel
theorem dX1_find_21 : decode cX1_find 21 = .ok (.iload_n 2, 1) := by decide +kernel
theorem dX1_find_22 : decode cX1_find 22 = .ok (.iaload, 1) := by decide +kernel
theorem dX1_find_23 : decode cX1_find 23 = .ok (.aload_n 1, 1) := by decide +kernel
theorem dX1_find_24 : decode cX1_find 24 = .ok (.getfield 56, 3) := by decide +kernel
theorem dX1_find_27 : decode cX1_find 27 = .ok (.if_icmp .ne 44, 3) := by decide +kernel
theorem dX1_find_30 : decode cX1_find 30 = .ok (.aload_n 0, 1) := by decide +kernel
theorem dX1_find_31 : decode cX1_find 31 = .ok (.getfield 15, 3) := by decide +kernel
theorem dX1_find_34 : decode cX1_find 34 = .ok (.iload_n 2, 1) := by decide +kernel
theorem dX1_find_35 : decode cX1_find 35 = .ok (.iaload, 1) := by decide +kernel
theorem dX1_find_36 : decode cX1_find 36 = .ok (.aload_n 1, 1) := by decide +kernel
theorem dX1_find_37 : decode cX1_find 37 = .ok (.getfield 61, 3) := by decide +kernel
theorem dX1_find_40 : decode cX1_find 40 = .ok (.if_icmp .ne 31, 3) := by decide +kernel
theorem dX1_find_43 : decode cX1_find 43 = .ok (.aload_n 0, 1) := by decide +kernel
theorem dX1_find_44 : decode cX1_find 44 = .ok (.getfield 18, 3) := by decide +kernel
theorem dX1_find_47 : decode cX1_find 47 = .ok (.iload_n 2, 1) := by decide +kernel
theorem dX1_find_48 : decode cX1_find 48 = .ok (.iaload, 1) := by decide +kernel
theorem dX1_find_49 : decode cX1_find 49 = .ok (.aload_n 1, 1) := by decide +kernel
theorem dX1_find_50 : decode cX1_find 50 = .ok (.getfield 64, 3) := by decide +kernel
theorem dX1_find_53 : decode cX1_find 53 = .ok (.if_icmp .ne 18, 3) := by decide +kernel
theorem dX1_find_56 : decode cX1_find 56 = .ok (.aload_n 0, 1) := by decide +kernel
theorem dX1_find_57 : decode cX1_find 57 = .ok (.getfield 21, 3) := by decide +kernel
theorem dX1_find_60 : decode cX1_find 60 = .ok (.iload_n 2, 1) := by decide +kernel
theorem dX1_find_61 : decode cX1_find 61 = .ok (.baload, 1) := by decide +kernel
theorem dX1_find_62 : decode cX1_find 62 = .ok (.aload_n 1, 1) := by decide +kernel
theorem dX1_find_63 : decode cX1_find 63 = .ok (.getfield 67, 3) := by decide +kernel
theorem dX1_find_66 : decode cX1_find 66 = .ok (.if_icmp .ne 5, 3) := by decide +kernel
theorem dX1_find_69 : decode cX1_find 69 = .ok (.iload_n 2, 1) := by decide +kernel
theorem dX1_find_70 : decode cX1_find 70 = .ok (.ireturn, 1) := by decide +kernel
theorem dX1_find_71 : decode cX1_find 71 = .ok (.iinc 2 1, 3) := by decide +kernel
theorem dX1_find_74 : decode cX1_find 74 = .ok (.goto (-72), 3) := by decide +kernel
theorem dX1_find_77 : decode cX1_find 77 = .ok (.iconst (-1), 1) := by decide +kernel
theorem dX1_find_78 : decode cX1_find 78 = .ok (.ireturn, 1) := by decide +kernel
set_option maxRecDepth 20000 in
theorem ggX1_show_X1_holds : GoodIn wsX1_show wsX1_holds := goodIn_r _ [17, 18, 27, 28, 29, 30, 31, 32, 33, 34] (by decide +kernel) (by decide +kernel)
set_option maxRecDepth 20000 in
theorem gX1_show_X1_holds : GoodIn wsX1_show (wsV RX1 43 RX1 yX1_holds wsX1_holds) := goodIn_app (goodIn_of _ (by decide +kernel)) ggX1_show_X1_holds
theorem dX1_show_0 : decode cX1_show 0 = .ok (.aload_n 0, 1) := by decide +kernel
theorem dX1_show_1 : decode cX1_show 1 = .ok (.iload_n 1, 1) := by decide +kernel
theorem dX1_show_2 : decode cX1_show 2 = .ok (.invokevirtual 43, 3) := by decide +kernel
theorem dX1_show_5 : decode cX1_show 5 = .ok (.ifCond .ne 4, 3) := by decide +kernel
theorem dX1_show_8 : decode cX1_show 8 = .ok (.return_, 1) := by decide +kernel
theorem dX1_show_9 : decode cX1_show 9 = .ok (.aload_n 3, 1) := by decide +kernel
theorem dX1_show_10 : decode cX1_show 10 = .ok (.iload_n 2, 1) := by decide +kernel
theorem dX1_show_11 : decode cX1_show 11 = .ok (.putfield 71, 3) := by decide +kernel
theorem dX1_show_14 : decode cX1_show 14 = .ok (.aload_n 3, 1) := by decide +kernel
theorem dX1_show_15 : decode cX1_show 15 = .ok (.aload_n 0, 1) := by decide +kernel
theorem dX1_show_16 : decode cX1_show 16 = .ok (.getfield 9, 3) := by decide +kernel
theorem dX1_show_19 : decode cX1_show 19 = .ok (.iload_n 1, 1) := by decide +kernel
theorem dX1_show_20 : decode cX1_show 20 = .ok (.iaload, 1) := by decide +kernel
theorem dX1_show_21 : decode cX1_show 21 = .ok (.putfield 56, 3) := by decide +kernel
theorem dX1_show_24 : decode cX1_show 24 = .ok (.aload_n 3, 1) := by decide +kernel
theorem dX1_show_25 : decode cX1_show 25 = .ok (.aload_n 0, 1) := by decide +kernel
theorem dX1_show_26 : decode cX1_show 26 = .ok (.getfield 15, 3) := by decide +kernel
theorem dX1_show_29 : decode cX1_show 29 = .ok (.iload_n 1, 1) := by decide +kernel
theorem dX1_show_30 : decode cX1_show 30 = .ok (.iaload, 1) := by decide +kernel
theorem dX1_show_31 : decode cX1_show 31 = .ok (.putfield 61, 3) := by decide +kernel
theorem dX1_show_34 : decode cX1_show 34 = .ok (.aload_n 3, 1) := by decide +kernel
theorem dX1_show_35 : decode cX1_show 35 = .ok (.aload_n 0, 1) := by decide +kernel
theorem dX1_show_36 : decode cX1_show 36 = .ok (.getfield 18, 3) := by decide +kernel
theorem dX1_show_39 : decode cX1_show 39 = .ok (.iload_n 1, 1) := by decide +kernel
theorem dX1_show_40 : decode cX1_show 40 = .ok (.iaload, 1) := by decide +kernel
theorem dX1_show_41 : decode cX1_show 41 = .ok (.putfield 64, 3) := by decide +kernel
theorem dX1_show_44 : decode cX1_show 44 = .ok (.aload_n 3, 1) := by decide +kernel
theorem dX1_show_45 : decode cX1_show 45 = .ok (.aload_n 0, 1) := by decide +kernel
theorem dX1_show_46 : decode cX1_show 46 = .ok (.getfield 21, 3) := by decide +kernel
theorem dX1_show_49 : decode cX1_show 49 = .ok (.iload_n 1, 1) := by decide +kernel
theorem dX1_show_50 : decode cX1_show 50 = .ok (.baload, 1) := by decide +kernel
theorem dX1_show_51 : decode cX1_show 51 = .ok (.putfield 67, 3) := by decide +kernel
theorem dX1_show_54 : decode cX1_show 54 = .ok (.aload_n 3, 1) := by decide +kernel
theorem dX1_show_55 : decode cX1_show 55 = .ok (.iconst 0, 1) := by decide +kernel
theorem dX1_show_56 : decode cX1_show 56 = .ok (.putfield 74, 3) := by decide +kernel
theorem dX1_show_59 : decode cX1_show 59 = .ok (.aload_n 3, 1) := by decide +kernel
theorem dX1_show_60 : decode cX1_show 60 = .ok (.iconst 0, 1) := by decide +kernel
theorem dX1_show_61 : decode cX1_show 61 = .ok (.putfield 77, 3) := by decide +kernel
theorem dX1_show_64 : decode cX1_show 64 = .ok (.aload_n 3, 1) := by decide +kernel
theorem dX1_show_65 : decode cX1_show 65 = .ok (.iconst 0, 1) := by decide +kernel
theorem dX1_show_66 : decode cX1_show 66 = .ok (.putfield 80, 3) := by decide +kernel
theorem dX1_show_69 : decode cX1_show 69 = .ok (.return_, 1) := by decide +kernel
set_option maxRecDepth 20000 in
theorem ggX2_init_X0_init : GoodIn wsX2_init wsX0_init := goodIn_r _ [19, 20, 2, 3, 21, 22, 23, 24, 25, 26] (by decide +kernel) (by decide +kernel)
set_option maxRecDepth 20000 in
theorem gX2_init_X0_init_n11 : GoodIn wsX2_init (wsX0_init) := ggX2_init_X0_init
theorem dX2_init_0 : decode cX2_init 0 = .ok (.aload_n 0, 1) := by decide +kernel
theorem dX2_init_1 : decode cX2_init 1 = .ok (.invokespecial 3, 3) := by decide +kernel
theorem dX2_init_4 : decode cX2_init 4 = .ok (.aload_n 0, 1) := by decide +kernel
theorem dX2_init_5 : decode cX2_init 5 = .ok (.new 9, 3) := by decide +kernel
theorem dX2_init_8 : decode cX2_init 8 = .ok (.dup, 1) := by decide +kernel
theorem dX2_init_9 : decode cX2_init 9 = .ok (.invokespecial 11, 3) := by decide +kernel
theorem dX2_init_12 : decode cX2_init 12 = .ok (.putfield 12, 3) := by decide +kernel
theorem dX2_init_15 : decode cX2_init 15 = .ok (.aload_n 0, 1) := by decide +kernel
theorem dX2_init_16 : decode cX2_init 16 = .ok (.new 9, 3) := by decide +kernel
theorem dX2_init_19 : decode cX2_init 19 = .ok (.dup, 1) := by decide +kernel
theorem dX2_init_20 : decode cX2_init 20 = .ok (.invokespecial 11, 3) := by decide +kernel
theorem dX2_init_23 : decode cX2_init 23 = .ok (.putfield 18, 3) := by decide +kernel
theorem dX2_init_26 : decode cX2_init 26 = .ok (.aload_n 0, 1) := by decide +kernel
theorem dX2_init_27 : decode cX2_init 27 = .ok (.iconst 0, 1) := by decide +kernel
theorem dX2_init_28 : decode cX2_init 28 = .ok (.putfield 21, 3) := by decide +kernel
theorem dX2_init_31 : decode cX2_init 31 = .ok (.aload_n 0, 1) := by decide +kernel
theorem dX2_init_32 : decode cX2_init 32 = .ok (.iconst 5, 1) := by decide +kernel
theorem dX2_init_33 : decode cX2_init 33 = .ok (.putfield 25, 3) := by decide +kernel
theorem dX2_init_36 : decode cX2_init 36 = .ok (.aload_n 0, 1) := by decide +kernel
theorem dX2_init_37 : decode cX2_init 37 = .ok (.iconst 4, 1) := by decide +kernel
theorem dX2_init_38 : decode cX2_init 38 = .ok (.putfield 29, 3) := by decide +kernel
theorem dX2_init_41 : decode cX2_init 41 = .ok (.aload_n 0, 1) := by decide +kernel
theorem dX2_init_42 : decode cX2_init 42 = .ok (.bipush 60, 2) := by decide +kernel
theorem dX2_init_44 : decode cX2_init 44 = .ok (.putfield 32, 3) := by decide +kernel
theorem dX2_init_47 : decode cX2_init 47 = .ok (.aload_n 0, 1) := by decide +kernel
theorem dX2_init_48 : decode cX2_init 48 = .ok (.bipush 80, 2) := by decide +kernel
theorem dX2_init_50 : decode cX2_init 50 = .ok (.putfield 35, 3) := by decide +kernel
theorem dX2_init_53 : decode cX2_init 53 = .ok (.aload_n 0, 1) := by decide +kernel
theorem dX2_init_54 : decode cX2_init 54 = .ok (.bipush 100, 2) := by decide +kernel
theorem dX2_init_56 : decode cX2_init 56 = .ok (.putfield 38, 3) := by decide +kernel
theorem dX2_init_59 : decode cX2_init 59 = .ok (.aload_n 0, 1) := by decide +kernel
theorem dX2_init_60 : decode cX2_init 60 = .ok (.bipush 50, 2) := by decide +kernel
theorem dX2_init_62 : decode cX2_init 62 = .ok (.putfield 41, 3) := by decide +kernel
theorem dX2_init_65 : decode cX2_init 65 = .ok (.aload_n 0, 1) := by decide +kernel
theorem dX2_init_66 : decode cX2_init 66 = .ok (.iconst 0, 1) := by decide +kernel
theorem dX2_init_67 : decode cX2_init 67 = .ok (.putfield 44, 3) := by decide +kernel
theorem dX2_init_70 : decode cX2_init 70 = .ok (.aload_n 0, 1) := by decide +kernel
theorem dX2_init_71 : decode cX2_init 71 = .ok (.iconst 0, 1) := by decide +kernel
theorem dX2_init_72 : decode cX2_init 72 = .ok (.putfield 47, 3) := by decide +kernel
theorem dX2_init_75 : decode cX2_init 75 = .ok (.return_, 1) := by decide +kernel
theorem dX2_weightOf_0 : decode cX2_weightOf 0 = .ok (.iload_n 1, 1) := by decide +kernel
theorem dX2_weightOf_1 : decode cX2_weightOf 1 = .ok (.ifCond .eq 10, 3) := by decide +kernel
theorem dX2_weightOf_4 : decode cX2_weightOf 4 = .ok (.aload_n 0, 1) := by decide +kernel
theorem dX2_weightOf_5 : decode cX2_weightOf 5 = .ok (.getfield 25, 3) := by decide +kernel
theorem dX2_weightOf_8 : decode cX2_weightOf 8 = .ok (.goto 10, 3) := by decide +kernel
theorem dX2_weightOf_11 : decode cX2_weightOf 11 = .ok (.bipush 10, 2) := by decide +kernel
theorem dX2_weightOf_13 : decode cX2_weightOf 13 = .ok (.aload_n 0, 1) := by decide +kernel
theorem dX2_weightOf_14 : decode cX2_weightOf 14 = .ok (.getfield 25, 3) := by decide +kernel
theorem dX2_weightOf_17 : decode cX2_weightOf 17 = .ok (.isub, 1) := by decide +kernel
theorem dX2_weightOf_18 : decode cX2_weightOf 18 = .ok (.ireturn, 1) := by decide +kernel
theorem dX3_init_0 : decode cX3_init 0 = .ok (.aload_n 0, 1) := by decide +kernel
theorem dX3_init_1 : decode cX3_init 1 = .ok (.invokespecial 3, 3) := by decide +kernel
theorem dX3_init_4 : decode cX3_init 4 = .ok (.aload_n 0, 1) := by decide +kernel
theorem dX3_init_5 : decode cX3_init 5 = .ok (.iconst 0, 1) := by decide +kernel
theorem dX3_init_6 : decode cX3_init 6 = .ok (.putfield 9, 3) := by decide +kernel
theorem dX3_init_9 : decode cX3_init 9 = .ok (.aload_n 0, 1) := by decide +kernel
theorem dX3_init_10 : decode cX3_init 10 = .ok (.sipush 500, 3) := by decide +kernel
theorem dX3_init_13 : decode cX3_init 13 = .ok (.putfield 15, 3) := by decide +kernel
theorem dX3_init_16 : decode cX3_init 16 = .ok (.aload_n 0, 1) := by decide +kernel
theorem dX3_init_17 : decode cX3_init 17 = .ok (.sipush 500, 3) := by decide +kernel
theorem dX3_init_20 : decode cX3_init 20 = .ok (.putfield 18, 3) := by decide +kernel
theorem dX3_init_23 : decode cX3_init 23 = .ok (.aload_n 0, 1) := by decide +kernel
theorem dX3_init_24 : decode cX3_init 24 = .ok (.iconst 0, 1) := by decide +kernel
theorem dX3_init_25 : decode cX3_init 25 = .ok (.putfield 21, 3) := by decide +kernel
theorem dX3_init_28 : decode cX3_init 28 = .ok (.aload_n 0, 1) := by decide +kernel
theorem dX3_init_29 : decode cX3_init 29 = .ok (.iconst 0, 1) := by decide +kernel
theorem dX3_init_30 : decode cX3_init 30 = .ok (.putfield 24, 3) := by decide +kernel
theorem dX3_init_33 : decode cX3_init 33 = .ok (.aload_n 0, 1) := by decide +kernel
theorem dX3_init_34 : decode cX3_init 34 = .ok (.iconst 0, 1) := by decide +kernel
theorem dX3_init_35 : decode cX3_init 35 = .ok (.putfield 28, 3) := by decide +kernel
theorem dX3_init_38 : decode cX3_init 38 = .ok (.aload_n 0, 1) := by decide +kernel
theorem dX3_init_39 : decode cX3_init 39 = .ok (.iconst 0, 1) := by decide +kernel
theorem dX3_init_40 : decode cX3_init 40 = .ok (.putfield 31, 3) := by decide +kernel
theorem dX3_init_43 : decode cX3_init 43 = .ok (.aload_n 0, 1) := by decide +kernel
theorem dX3_init_44 : decode cX3_init 44 = .ok (.iconst 0, 1) := by decide +kernel
theorem dX3_init_45 : decode cX3_init 45 = .ok (.putfield 34, 3) := by decide +kernel
theorem dX3_init_48 : decode cX3_init 48 = .ok (.return_, 1) := by decide +kernel
theorem dX3_begin_0 : decode cX3_begin 0 = .ok (.aload_n 0, 1) := by decide +kernel
theorem dX3_begin_1 : decode cX3_begin 1 = .ok (.iconst 0, 1) := by decide +kernel
theorem dX3_begin_2 : decode cX3_begin 2 = .ok (.putfield 9, 3) := by decide +kernel
theorem dX3_begin_5 : decode cX3_begin 5 = .ok (.aload_n 0, 1) := by decide +kernel
theorem dX3_begin_6 : decode cX3_begin 6 = .ok (.aload_n 1, 1) := by decide +kernel
theorem dX3_begin_7 : decode cX3_begin 7 = .ok (.getfield 37, 3) := by decide +kernel
theorem dX3_begin_10 : decode cX3_begin 10 = .ok (.getfield 43, 3) := by decide +kernel
theorem dX3_begin_13 : decode cX3_begin 13 = .ok (.putfield 15, 3) := by decide +kernel
theorem dX3_begin_16 : decode cX3_begin 16 = .ok (.aload_n 0, 1) := by decide +kernel
theorem dX3_begin_17 : decode cX3_begin 17 = .ok (.aload_n 1, 1) := by decide +kernel
theorem dX3_begin_18 : decode cX3_begin 18 = .ok (.getfield 48, 3) := by decide +kernel
theorem dX3_begin_21 : decode cX3_begin 21 = .ok (.getfield 43, 3) := by decide +kernel
theorem dX3_begin_24 : decode cX3_begin 24 = .ok (.putfield 18, 3) := by decide +kernel
theorem dX3_begin_27 : decode cX3_begin 27 = .ok (.aload_n 0, 1) := by decide +kernel
theorem dX3_begin_28 : decode cX3_begin 28 = .ok (.iconst 0, 1) := by decide +kernel
theorem dX3_begin_29 : decode cX3_begin 29 = .ok (.putfield 21, 3) := by decide +kernel
theorem dX3_begin_32 : decode cX3_begin 32 = .ok (.aload_n 0, 1) := by decide +kernel
theorem dX3_begin_33 : decode cX3_begin 33 = .ok (.iconst 0, 1) := by decide +kernel
theorem dX3_begin_34 : decode cX3_begin 34 = .ok (.putfield 24, 3) := by decide +kernel
theorem dX3_begin_37 : decode cX3_begin 37 = .ok (.aload_n 0, 1) := by decide +kernel
theorem dX3_begin_38 : decode cX3_begin 38 = .ok (.iconst 0, 1) := by decide +kernel
theorem dX3_begin_39 : decode cX3_begin 39 = .ok (.putfield 28, 3) := by decide +kernel
theorem dX3_begin_42 : decode cX3_begin 42 = .ok (.aload_n 0, 1) := by decide +kernel
theorem dX3_begin_43 : decode cX3_begin 43 = .ok (.iconst 0, 1) := by decide +kernel
theorem dX3_begin_44 : decode cX3_begin 44 = .ok (.putfield 31, 3) := by decide +kernel
theorem dX3_begin_47 : decode cX3_begin 47 = .ok (.aload_n 0, 1) := by decide +kernel
theorem dX3_begin_48 : decode cX3_begin 48 = .ok (.iconst 0, 1) := by decide +kernel
theorem dX3_begin_49 : decode cX3_begin 49 = .ok (.putfield 34, 3) := by decide +kernel
theorem dX3_begin_52 : decode cX3_begin 52 = .ok (.return_, 1) := by decide +kernel
theorem dX3_copy_0 : decode cX3_copy 0 = .ok (.aload_n 0, 1) := by decide +kernel
theorem dX3_copy_1 : decode cX3_copy 1 = .ok (.aload_n 1, 1) := by decide +kernel
theorem dX3_copy_2 : decode cX3_copy 2 = .ok (.getfield 9, 3) := by decide +kernel
theorem dX3_copy_5 : decode cX3_copy 5 = .ok (.putfield 9, 3) := by decide +kernel
theorem dX3_copy_8 : decode cX3_copy 8 = .ok (.aload_n 0, 1) := by decide +kernel
theorem dX3_copy_9 : decode cX3_copy 9 = .ok (.aload_n 1, 1) := by decide +kernel
theorem dX3_copy_10 : decode cX3_copy 10 = .ok (.getfield 15, 3) := by decide +kernel
theorem dX3_copy_13 : decode cX3_copy 13 = .ok (.putfield 15, 3) := by decide +kernel
theorem dX3_copy_16 : decode cX3_copy 16 = .ok (.aload_n 0, 1) := by decide +kernel
theorem dX3_copy_17 : decode cX3_copy 17 = .ok (.aload_n 1, 1) := by decide +kernel
theorem dX3_copy_18 : decode cX3_copy 18 = .ok (.getfield 18, 3) := by decide +kernel
theorem dX3_copy_21 : decode cX3_copy 21 = .ok (.putfield 18, 3) := by decide +kernel
theorem dX3_copy_24 : decode cX3_copy 24 = .ok (.aload_n 0, 1) := by decide +kernel
theorem dX3_copy_25 : decode cX3_copy 25 = .ok (.aload_n 1, 1) := by decide +kernel
theorem dX3_copy_26 : decode cX3_copy 26 = .ok (.getfield 21, 3) := by decide +kernel
theorem dX3_copy_29 : decode cX3_copy 29 = .ok (.putfield 21, 3) := by decide +kernel
theorem dX3_copy_32 : decode cX3_copy 32 = .ok (.aload_n 0, 1) := by decide +kernel
theorem dX3_copy_33 : decode cX3_copy 33 = .ok (.aload_n 1, 1) := by decide +kernel
theorem dX3_copy_34 : decode cX3_copy 34 = .ok (.getfield 24, 3) := by decide +kernel
theorem dX3_copy_37 : decode cX3_copy 37 = .ok (.putfield 24, 3) := by decide +kernel
theorem dX3_copy_40 : decode cX3_copy 40 = .ok (.aload_n 0, 1) := by decide +kernel
theorem dX3_copy_41 : decode cX3_copy 41 = .ok (.aload_n 1, 1) := by decide +kernel
theorem dX3_copy_42 : decode cX3_copy 42 = .ok (.getfield 28, 3) := by decide +kernel
theorem dX3_copy_45 : decode cX3_copy 45 = .ok (.putfield 28, 3) := by decide +kernel
theorem dX3_copy_48 : decode cX3_copy 48 = .ok (.aload_n 0, 1) := by decide +kernel
theorem dX3_copy_49 : decode cX3_copy 49 = .ok (.aload_n 1, 1) := by decide +kernel
theorem dX3_copy_50 : decode cX3_copy 50 = .ok (.getfield 31, 3) := by decide +kernel
theorem dX3_copy_53 : decode cX3_copy 53 = .ok (.putfield 31, 3) := by decide +kernel
theorem dX3_copy_56 : decode cX3_copy 56 = .ok (.aload_n 0, 1) := by decide +kernel
theorem dX3_copy_57 : decode cX3_copy 57 = .ok (.aload_n 1, 1) := by decide +kernel
theorem dX3_copy_58 : decode cX3_copy 58 = .ok (.getfield 34, 3) := by decide +kernel
theorem dX3_copy_61 : decode cX3_copy 61 = .ok (.putfield 34, 3) := by decide +kernel
theorem dX3_copy_64 : decode cX3_copy 64 = .ok (.return_, 1) := by decide +kernel
set_option maxRecDepth 20000 in
theorem ggX3_worstLevel_X0_levelAt : GoodIn wsX3_worstLevel wsX0_levelAt := goodIn_r _ [13, 14, 34, 35, 36] (by decide +kernel) (by decide +kernel)
set_option maxRecDepth 20000 in
theorem gX3_worstLevel_X0_levelAt : GoodIn wsX3_worstLevel (wsV RX3 51 RX0 yX0_levelAt wsX0_levelAt) := goodIn_app (goodIn_of _ (by decide +kernel)) ggX3_worstLevel_X0_levelAt
theorem dX3_worstLevel_0 : decode cX3_worstLevel 0 = .ok (.aload_n 1, 1) := by decide +kernel
theorem dX3_worstLevel_1 : decode cX3_worstLevel 1 = .ok (.getfield 37, 3) := by decide +kernel
theorem dX3_worstLevel_4 : decode cX3_worstLevel 4 = .ok (.aload_n 0, 1) := by decide +kernel
theorem dX3_worstLevel_5 : decode cX3_worstLevel 5 = .ok (.getfield 15, 3) := by decide +kernel
theorem dX3_worstLevel_8 : decode cX3_worstLevel 8 = .ok (.invokevirtual 51, 3) := by decide +kernel
theorem dX3_worstLevel_11 : decode cX3_worstLevel 11 = .ok (.aload_n 1, 1) := by decide +kernel
theorem dX3_worstLevel_12 : decode cX3_worstLevel 12 = .ok (.getfield 48, 3) := by decide +kernel
theorem dX3_worstLevel_15 : decode cX3_worstLevel 15 = .ok (.aload_n 0, 1) := by decide +kernel
theorem dX3_worstLevel_16 : decode cX3_worstLevel 16 = .ok (.getfield 18, 3) := by decide +kernel
theorem dX3_worstLevel_19 : decode cX3_worstLevel 19 = .ok (.invokevirtual 51, 3) := by decide +kernel
theorem dX3_worstLevel_22 : decode cX3_worstLevel 22 = .ok (.invokestatic 55, 3) := by decide +kernel
theorem dX3_worstLevel_25 : decode cX3_worstLevel 25 = .ok (.ireturn, 1) := by decide +kernel
set_option maxRecDepth 20000 in
theorem ggX3_move_X0_priceBehind : GoodIn wsX3_move wsX0_priceBehind := goodIn_r _ [19, 20, 21, 22, 23, 24, 25, 70, 71, 72] (by decide +kernel) (by decide +kernel)
set_option maxRecDepth 20000 in
theorem gX3_move_X0_priceBehind : GoodIn wsX3_move (wsV RX3 61 RX0 yX0_priceBehind wsX0_priceBehind) := goodIn_app (goodIn_of _ (by decide +kernel)) ggX3_move_X0_priceBehind
set_option maxRecDepth 20000 in
theorem ggX3_move_X3_worstLevel : GoodIn wsX3_move wsX3_worstLevel := goodIn_r _ [30, 2, 3, 4, 5, 31, 32, 24, 33, 34, 35, 36, 18, 37, 38, 59, 60, 61, 62, 63, 64, 65, 66, 67, 68, 69, 51, 52, 53, 54, 55, 56, 57, 58, 70, 71, 72] (by decide +kernel) (by decide +kernel)
set_option maxRecDepth 20000 in
theorem gX3_move_X3_worstLevel : GoodIn wsX3_move (wsV RX3 71 RX3 yX3_worstLevel wsX3_worstLevel) := goodIn_app (goodIn_of _ (by decide +kernel)) ggX3_move_X3_worstLevel
set_option maxRecDepth 20000 in
theorem ggX3_move_X3_takeCoupons : GoodIn wsX3_move wsX3_takeCoupons := goodIn_r _ [42, 43, 44, 45, 46, 59, 60, 61, 62, 63, 64, 65, 66, 67, 68, 69, 51, 52, 53, 54, 55, 56, 57, 58] (by decide +kernel) (by decide +kernel)
set_option maxRecDepth 20000 in
theorem gX3_move_X3_takeCoupons : GoodIn wsX3_move (wsV RX3 81 RX3 yX3_takeCoupons wsX3_takeCoupons) := goodIn_app (goodIn_of _ (by decide +kernel)) ggX3_move_X3_takeCoupons
set_option maxRecDepth 20000 in
theorem ggX3_move_X3_endPay : GoodIn wsX3_move wsX3_endPay := goodIn_r _ [50, 10, 51, 52, 53, 54, 55, 56, 57, 58] (by decide +kernel) (by decide +kernel)
set_option maxRecDepth 20000 in
theorem gX3_move_X3_endPay : GoodIn wsX3_move (wsV RX3 88 RX3 yX3_endPay wsX3_endPay) := goodIn_app (goodIn_of _ (by decide +kernel)) ggX3_move_X3_endPay
theorem dX3_move_0 : decode cX3_move 0 = .ok (.aload_n 0, 1) := by decide +kernel
theorem dX3_move_1 : decode cX3_move 1 = .ok (.dup, 1) := by decide +kernel
theorem dX3_move_2 : decode cX3_move 2 = .ok (.getfield 9, 3) := by decide +kernel
theorem dX3_move_5 : decode cX3_move 5 = .ok (.iconst 1, 1) := by decide +kernel
theorem dX3_move_6 : decode cX3_move 6 = .ok (.iadd, 1) := by decide +kernel
theorem dX3_move_7 : decode cX3_move 7 = .ok (.putfield 9, 3) := by decide +kernel
theorem dX3_move_10 : decode cX3_move 10 = .ok (.aload_n 0, 1) := by decide +kernel
theorem dX3_move_11 : decode cX3_move 11 = .ok (.aload_n 1, 1) := by decide +kernel
theorem dX3_move_12 : decode cX3_move 12 = .ok (.getfield 37, 3) := by decide +kernel
theorem dX3_move_15 : decode cX3_move 15 = .ok (.aload_n 0, 1) := by decide +kernel
theorem dX3_move_16 : decode cX3_move 16 = .ok (.getfield 15, 3) := by decide +kernel
theorem dX3_move_19 : decode cX3_move 19 = .ok (.iload_n 2, 1) := by decide +kernel
theorem dX3_move_20 : decode cX3_move 20 = .ok (.invokevirtual 61, 3) := by decide +kernel
theorem dX3_move_23 : decode cX3_move 23 = .ok (.putfield 15, 3) := by decide +kernel
theorem dX3_move_26 : decode cX3_move 26 = .ok (.aload_n 0, 1) := by decide +kernel
theorem dX3_move_27 : decode cX3_move 27 = .ok (.aload_n 1, 1) := by decide +kernel
theorem dX3_move_28 : decode cX3_move 28 = .ok (.getfield 48, 3) := by decide +kernel
theorem dX3_move_31 : decode cX3_move 31 = .ok (.aload_n 0, 1) := by decide +kernel
theorem dX3_move_32 : decode cX3_move 32 = .ok (.getfield 18, 3) := by decide +kernel
theorem dX3_move_35 : decode cX3_move 35 = .ok (.iload_n 2, 1) := by decide +kernel
theorem dX3_move_36 : decode cX3_move 36 = .ok (.aload_n 1, 1) := by decide +kernel
theorem dX3_move_37 : decode cX3_move 37 = .ok (.getfield 65, 3) := by decide +kernel
theorem dX3_move_40 : decode cX3_move 40 = .ok (.if_icmp .eq 7, 3) := by decide +kernel
theorem dX3_move_43 : decode cX3_move 43 = .ok (.iconst 1, 1) := by decide +kernel
theorem dX3_move_44 : decode cX3_move 44 = .ok (.goto 4, 3) := by decide +kernel
theorem dX3_move_47 : decode cX3_move 47 = .ok (.iconst 0, 1) := by decide +kernel
theorem dX3_move_48 : decode cX3_move 48 = .ok (.invokevirtual 61, 3) := by decide +kernel
theorem dX3_move_51 : decode cX3_move 51 = .ok (.putfield 18, 3) := by decide +kernel
theorem dX3_move_54 : decode cX3_move 54 = .ok (.aload_n 0, 1) := by decide +kernel
theorem dX3_move_55 : decode cX3_move 55 = .ok (.getfield 9, 3) := by decide +kernel
theorem dX3_move_58 : decode cX3_move 58 = .ok (.aload_n 1, 1) := by decide +kernel
theorem dX3_move_59 : decode cX3_move 59 = .ok (.getfield 68, 3) := by decide +kernel
theorem dX3_move_62 : decode cX3_move 62 = .ok (.if_icmp .lt 7, 3) := by decide +kernel
theorem dX3_move_65 : decode cX3_move 65 = .ok (.iconst 1, 1) := by decide +kernel
theorem dX3_move_66 : decode cX3_move 66 = .ok (.goto 4, 3) := by decide +kernel
theorem dX3_move_69 : decode cX3_move 69 = .ok (.iconst 0, 1) := by decide +kernel
theorem dX3_move_70 : decode cX3_move 70 = .ok (.istore_n 3, 1) := by decide +kernel
theorem dX3_move_71 : decode cX3_move 71 = .ok (.aload_n 0, 1) := by decide +kernel
theorem dX3_move_72 : decode cX3_move 72 = .ok (.aload_n 1, 1) := by decide +kernel
theorem dX3_move_73 : decode cX3_move 73 = .ok (.invokevirtual 71, 3) := by decide +kernel
theorem dX3_move_76 : decode cX3_move 76 = .ok (.istore 4, 2) := by decide +kernel
theorem dX3_move_78 : decode cX3_move 78 = .ok (.iload 4, 2) := by decide +kernel
theorem dX3_move_80 : decode cX3_move 80 = .ok (.aload_n 1, 1) := by decide +kernel
theorem dX3_move_81 : decode cX3_move 81 = .ok (.getfield 75, 3) := by decide +kernel
theorem dX3_move_84 : decode cX3_move 84 = .ok (.if_icmp .ge 19, 3) := by decide +kernel
theorem dX3_move_87 : decode cX3_move 87 = .ok (.iload_n 3, 1) := by decide +kernel
theorem dX3_move_88 : decode cX3_move 88 = .ok (.ifCond .ne 10, 3) := by decide +kernel
theorem dX3_move_91 : decode cX3_move 91 = .ok (.aload_n 1, 1) := by decide +kernel
theorem dX3_move_92 : decode cX3_move 92 = .ok (.getfield 78, 3) := by decide +kernel
theorem dX3_move_95 : decode cX3_move 95 = .ok (.ifCond .ne 8, 3) := by decide +kernel
theorem dX3_move_98 : decode cX3_move 98 = .ok (.aload_n 0, 1) := by decide +kernel
theorem dX3_move_99 : decode cX3_move 99 = .ok (.iconst 1, 1) := by decide +kernel
theorem dX3_move_100 : decode cX3_move 100 = .ok (.putfield 24, 3) := by decide +kernel
theorem dX3_move_103 : decode cX3_move 103 = .ok (.aload_n 0, 1) := by decide +kernel
theorem dX3_move_104 : decode cX3_move 104 = .ok (.aload_n 0, 1) := by decide +kernel
theorem dX3_move_105 : decode cX3_move 105 = .ok (.aload_n 1, 1) := by decide +kernel
theorem dX3_move_106 : decode cX3_move 106 = .ok (.iload 4, 2) := by decide +kernel
theorem dX3_move_108 : decode cX3_move 108 = .ok (.invokevirtual 81, 3) := by decide +kernel
theorem dX3_move_111 : decode cX3_move 111 = .ok (.putfield 31, 3) := by decide +kernel
theorem dX3_move_114 : decode cX3_move 114 = .ok (.iload_n 3, 1) := by decide +kernel
theorem dX3_move_115 : decode cX3_move 115 = .ok (.ifCond .ne 12, 3) := by decide +kernel
theorem dX3_move_118 : decode cX3_move 118 = .ok (.iload 4, 2) := by decide +kernel
theorem dX3_move_120 : decode cX3_move 120 = .ok (.aload_n 1, 1) := by decide +kernel
theorem dX3_move_121 : decode cX3_move 121 = .ok (.getfield 85, 3) := by decide +kernel
theorem dX3_move_124 : decode cX3_move 124 = .ok (.if_icmp .lt 24, 3) := by decide +kernel
theorem dX3_move_127 : decode cX3_move 127 = .ok (.aload_n 0, 1) := by decide +kernel
theorem dX3_move_128 : decode cX3_move 128 = .ok (.iconst 1, 1) := by decide +kernel
theorem dX3_move_129 : decode cX3_move 129 = .ok (.putfield 28, 3) := by decide +kernel
theorem dX3_move_132 : decode cX3_move 132 = .ok (.aload_n 0, 1) := by decide +kernel
theorem dX3_move_133 : decode cX3_move 133 = .ok (.dup, 1) := by decide +kernel
theorem dX3_move_134 : decode cX3_move 134 = .ok (.getfield 31, 3) := by decide +kernel
theorem dX3_move_137 : decode cX3_move 137 = .ok (.aload_n 0, 1) := by decide +kernel
theorem dX3_move_138 : decode cX3_move 138 = .ok (.iload 4, 2) := by decide +kernel
theorem dX3_move_140 : decode cX3_move 140 = .ok (.iload_n 3, 1) := by decide +kernel
theorem dX3_move_141 : decode cX3_move 141 = .ok (.invokevirtual 88, 3) := by decide +kernel
theorem dX3_move_144 : decode cX3_move 144 = .ok (.iadd, 1) := by decide +kernel
theorem dX3_move_145 : decode cX3_move 145 = .ok (.putfield 31, 3) := by decide +kernel
theorem dX3_move_148 : decode cX3_move 148 = .ok (.aload_n 0, 1) := by decide +kernel
theorem dX3_move_149 : decode cX3_move 149 = .ok (.dup, 1) := by decide +kernel
theorem dX3_move_150 : decode cX3_move 150 = .ok (.getfield 34, 3) := by decide +kernel
theorem dX3_move_153 : decode cX3_move 153 = .ok (.aload_n 0, 1) := by decide +kernel
theorem dX3_move_154 : decode cX3_move 154 = .ok (.getfield 31, 3) := by decide +kernel
theorem dX3_move_157 : decode cX3_move 157 = .ok (.iadd, 1) := by decide +kernel
theorem dX3_move_158 : decode cX3_move 158 = .ok (.putfield 34, 3) := by decide +kernel
theorem dX3_move_161 : decode cX3_move 161 = .ok (.return_, 1) := by decide +kernel
theorem dX3_takeCoupons_0 : decode cX3_takeCoupons 0 = .ok (.iload_n 2, 1) := by decide +kernel
theorem dX3_takeCoupons_1 : decode cX3_takeCoupons 1 = .ok (.aload_n 1, 1) := by decide +kernel
theorem dX3_takeCoupons_2 : decode cX3_takeCoupons 2 = .ok (.getfield 91, 3) := by decide +kernel
theorem dX3_takeCoupons_5 : decode cX3_takeCoupons 5 = .ok (.if_icmp .ge 15, 3) := by decide +kernel
theorem dX3_takeCoupons_8 : decode cX3_takeCoupons 8 = .ok (.aload_n 0, 1) := by decide +kernel
theorem dX3_takeCoupons_9 : decode cX3_takeCoupons 9 = .ok (.dup, 1) := by decide +kernel
theorem dX3_takeCoupons_10 : decode cX3_takeCoupons 10 = .ok (.getfield 21, 3) := by decide +kernel
theorem dX3_takeCoupons_13 : decode cX3_takeCoupons 13 = .ok (.iconst 1, 1) := by decide +kernel
theorem dX3_takeCoupons_14 : decode cX3_takeCoupons 14 = .ok (.iadd, 1) := by decide +kernel
theorem dX3_takeCoupons_15 : decode cX3_takeCoupons 15 = .ok (.putfield 21, 3) := by decide +kernel
theorem dX3_takeCoupons_18 : decode cX3_takeCoupons 18 = .ok (.iconst 0, 1) := by decide +kernel
theorem dX3_takeCoupons_19 : decode cX3_takeCoupons 19 = .ok (.ireturn, 1) := by decide +kernel
theorem dX3_takeCoupons_20 : decode cX3_takeCoupons 20 = .ok (.aload_n 1, 1) := by decide +kernel
theorem dX3_takeCoupons_21 : decode cX3_takeCoupons 21 = .ok (.getfield 94, 3) := by decide +kernel
theorem dX3_takeCoupons_24 : decode cX3_takeCoupons 24 = .ok (.ifCond .eq 12, 3) := by decide +kernel
theorem dX3_takeCoupons_27 : decode cX3_takeCoupons 27 = .ok (.iconst 1, 1) := by decide +kernel
theorem dX3_takeCoupons_28 : decode cX3_takeCoupons 28 = .ok (.aload_n 0, 1) := by decide +kernel
theorem dX3_takeCoupons_29 : decode cX3_takeCoupons 29 = .ok (.getfield 21, 3) := by decide +kernel
theorem dX3_takeCoupons_32 : decode cX3_takeCoupons 32 = .ok (.iadd, 1) := by decide +kernel
theorem dX3_takeCoupons_33 : decode cX3_takeCoupons 33 = .ok (.goto 4, 3) := by decide +kernel
theorem dX3_takeCoupons_36 : decode cX3_takeCoupons 36 = .ok (.iconst 1, 1) := by decide +kernel
theorem dX3_takeCoupons_37 : decode cX3_takeCoupons 37 = .ok (.istore_n 3, 1) := by decide +kernel
theorem dX3_takeCoupons_38 : decode cX3_takeCoupons 38 = .ok (.aload_n 0, 1) := by decide +kernel
theorem dX3_takeCoupons_39 : decode cX3_takeCoupons 39 = .ok (.iconst 0, 1) := by decide +kernel
theorem dX3_takeCoupons_40 : decode cX3_takeCoupons 40 = .ok (.putfield 21, 3) := by decide +kernel
theorem dX3_takeCoupons_43 : decode cX3_takeCoupons 43 = .ok (.iload_n 3, 1) := by decide +kernel
theorem dX3_takeCoupons_44 : decode cX3_takeCoupons 44 = .ok (.aload_n 1, 1) := by decide +kernel
theorem dX3_takeCoupons_45 : decode cX3_takeCoupons 45 = .ok (.getfield 97, 3) := by decide +kernel
theorem dX3_takeCoupons_48 : decode cX3_takeCoupons 48 = .ok (.imul, 1) := by decide +kernel
theorem dX3_takeCoupons_49 : decode cX3_takeCoupons 49 = .ok (.ireturn, 1) := by decide +kernel
theorem dX3_endPay_0 : decode cX3_endPay 0 = .ok (.iload_n 2, 1) := by decide +kernel
theorem dX3_endPay_1 : decode cX3_endPay 1 = .ok (.ifCond .eq 20, 3) := by decide +kernel
theorem dX3_endPay_4 : decode cX3_endPay 4 = .ok (.aload_n 0, 1) := by decide +kernel
theorem dX3_endPay_5 : decode cX3_endPay 5 = .ok (.getfield 24, 3) := by decide +kernel
theorem dX3_endPay_8 : decode cX3_endPay 8 = .ok (.ifCond .eq 13, 3) := by decide +kernel
theorem dX3_endPay_11 : decode cX3_endPay 11 = .ok (.iload_n 1, 1) := by decide +kernel
theorem dX3_endPay_12 : decode cX3_endPay 12 = .ok (.bipush 100, 2) := by decide +kernel
theorem dX3_endPay_14 : decode cX3_endPay 14 = .ok (.if_icmp .ge 7, 3) := by decide +kernel
theorem dX3_endPay_17 : decode cX3_endPay 17 = .ok (.iconst 1, 1) := by decide +kernel
theorem dX3_endPay_18 : decode cX3_endPay 18 = .ok (.goto 4, 3) := by decide +kernel
theorem dX3_endPay_21 : decode cX3_endPay 21 = .ok (.iconst 0, 1) := by decide +kernel
theorem dX3_endPay_22 : decode cX3_endPay 22 = .ok (.istore_n 3, 1) := by decide +kernel
theorem dX3_endPay_23 : decode cX3_endPay 23 = .ok (.iload_n 3, 1) := by decide +kernel
theorem dX3_endPay_24 : decode cX3_endPay 24 = .ok (.ifCond .eq 10, 3) := by decide +kernel
theorem dX3_endPay_27 : decode cX3_endPay 27 = .ok (.bipush 10, 2) := by decide +kernel
theorem dX3_endPay_29 : decode cX3_endPay 29 = .ok (.iload_n 1, 1) := by decide +kernel
theorem dX3_endPay_30 : decode cX3_endPay 30 = .ok (.imul, 1) := by decide +kernel
theorem dX3_endPay_31 : decode cX3_endPay 31 = .ok (.goto 6, 3) := by decide +kernel
theorem dX3_endPay_34 : decode cX3_endPay 34 = .ok (.sipush 1000, 3) := by decide +kernel
theorem dX3_endPay_37 : decode cX3_endPay 37 = .ok (.ireturn, 1) := by decide +kernel
set_option maxRecDepth 20000 in
theorem ggX4_init_X3_init : GoodIn wsX4_init wsX3_init := goodIn_r _ [21, 22, 2, 3, 23, 24, 25, 26, 27, 28, 29, 30, 44, 45, 46, 47, 48, 49, 50, 51] (by decide +kernel) (by decide +kernel)
set_option maxRecDepth 20000 in
theorem gX4_init_X3_init_n11 : GoodIn wsX4_init (wsX3_init) := ggX4_init_X3_init
set_option maxRecDepth 20000 in
theorem ggX4_init_X1_init : GoodIn wsX4_init wsX1_init := goodIn_r _ [32, 33, 2, 3, 34, 35, 36, 37, 38, 39, 8, 40, 41, 42, 43, 61, 62, 63, 64, 65, 66, 67, 68] (by decide +kernel) (by decide +kernel)
set_option maxRecDepth 20000 in
theorem gX4_init_X1_init_n24 : GoodIn wsX4_init (wsX1_init) := ggX4_init_X1_init
theorem dX4_init_0 : decode cX4_init 0 = .ok (.aload_n 0, 1) := by decide +kernel
theorem dX4_init_1 : decode cX4_init 1 = .ok (.invokespecial 3, 3) := by decide +kernel
theorem dX4_init_4 : decode cX4_init 4 = .ok (.aload_n 0, 1) := by decide +kernel
theorem dX4_init_5 : decode cX4_init 5 = .ok (.new 9, 3) := by decide +kernel
theorem dX4_init_8 : decode cX4_init 8 = .ok (.dup, 1) := by decide +kernel
theorem dX4_init_9 : decode cX4_init 9 = .ok (.invokespecial 11, 3) := by decide +kernel
theorem dX4_init_12 : decode cX4_init 12 = .ok (.putfield 12, 3) := by decide +kernel
theorem dX4_init_15 : decode cX4_init 15 = .ok (.aload_n 0, 1) := by decide +kernel
theorem dX4_init_16 : decode cX4_init 16 = .ok (.bipush 9, 2) := by decide +kernel
theorem dX4_init_18 : decode cX4_init 18 = .ok (.newarray .long, 2) := by decide +kernel
theorem dX4_init_20 : decode cX4_init 20 = .ok (.putfield 18, 3) := by decide +kernel
theorem dX4_init_23 : decode cX4_init 23 = .ok (.aload_n 0, 1) := by decide +kernel
theorem dX4_init_24 : decode cX4_init 24 = .ok (.new 22, 3) := by decide +kernel
theorem dX4_init_27 : decode cX4_init 27 = .ok (.dup, 1) := by decide +kernel
theorem dX4_init_28 : decode cX4_init 28 = .ok (.invokespecial 24, 3) := by decide +kernel
theorem dX4_init_31 : decode cX4_init 31 = .ok (.putfield 25, 3) := by decide +kernel
theorem dX4_init_34 : decode cX4_init 34 = .ok (.aload_n 0, 1) := by decide +kernel
theorem dX4_init_35 : decode cX4_init 35 = .ok (.new 22, 3) := by decide +kernel
theorem dX4_init_38 : decode cX4_init 38 = .ok (.dup, 1) := by decide +kernel
theorem dX4_init_39 : decode cX4_init 39 = .ok (.invokespecial 24, 3) := by decide +kernel
theorem dX4_init_42 : decode cX4_init 42 = .ok (.putfield 29, 3) := by decide +kernel
theorem dX4_init_45 : decode cX4_init 45 = .ok (.aload_n 0, 1) := by decide +kernel
theorem dX4_init_46 : decode cX4_init 46 = .ok (.lconst 0, 1) := by decide +kernel
theorem dX4_init_47 : decode cX4_init 47 = .ok (.putfield 32, 3) := by decide +kernel
theorem dX4_init_50 : decode cX4_init 50 = .ok (.aload_n 0, 1) := by decide +kernel
theorem dX4_init_51 : decode cX4_init 51 = .ok (.lconst 0, 1) := by decide +kernel
theorem dX4_init_52 : decode cX4_init 52 = .ok (.putfield 36, 3) := by decide +kernel
theorem dX4_init_55 : decode cX4_init 55 = .ok (.aload_n 0, 1) := by decide +kernel
theorem dX4_init_56 : decode cX4_init 56 = .ok (.iconst 0, 1) := by decide +kernel
theorem dX4_init_57 : decode cX4_init 57 = .ok (.putfield 39, 3) := by decide +kernel
theorem dX4_init_60 : decode cX4_init 60 = .ok (.aload_n 0, 1) := by decide +kernel
theorem dX4_init_61 : decode cX4_init 61 = .ok (.iconst 0, 1) := by decide +kernel
theorem dX4_init_62 : decode cX4_init 62 = .ok (.putfield 43, 3) := by decide +kernel
theorem dX4_init_65 : decode cX4_init 65 = .ok (.aload_n 0, 1) := by decide +kernel
theorem dX4_init_66 : decode cX4_init 66 = .ok (.iconst 0, 1) := by decide +kernel
theorem dX4_init_67 : decode cX4_init 67 = .ok (.putfield 46, 3) := by decide +kernel
theorem dX4_init_70 : decode cX4_init 70 = .ok (.return_, 1) := by decide +kernel
set_option maxRecDepth 20000 in
theorem ggX4_grow_X4_clear : GoodIn wsX4_grow wsX4_clear := goodIn_r _ [14, 15, 16, 3, 5, 17, 146, 147, 148, 149, 150, 151, 152, 153, 154] (by decide +kernel) (by decide +kernel)
set_option maxRecDepth 20000 in
theorem gX4_grow_X4_clear : GoodIn wsX4_grow (wsV RX4 49 RX4 yX4_clear wsX4_clear) := goodIn_app (goodIn_of _ (by decide +kernel)) ggX4_grow_X4_clear
set_option maxRecDepth 20000 in
theorem ggX4_grow_X1_add : GoodIn wsX4_grow wsX1_add := goodIn_r _ [22, 23, 24, 25, 26, 27, 28, 29, 30, 31, 32, 33, 34, 35, 36, 37, 38, 39, 40, 41, 42, 43, 44, 21, 45, 46, 47, 48, 49, 155, 156, 157, 158, 159, 160, 161, 162, 138, 139, 140, 141, 142, 143, 144, 145] (by decide +kernel) (by decide +kernel)
set_option maxRecDepth 20000 in
theorem gX4_grow_X1_add : GoodIn wsX4_grow (wsV RX4 62 RX1 yX1_add wsX1_add) := goodIn_app (goodIn_of _ (by decide +kernel)) ggX4_grow_X1_add
set_option maxRecDepth 20000 in
theorem ggX4_grow_X4_growPeriod : GoodIn wsX4_grow wsX4_growPeriod := goodIn_r _ [53, 54, 7, 6, 55, 56, 57, 13, 58, 59, 60, 9, 61, 62, 63, 16, 1, 64, 47, 48, 21, 49, 33, 65, 66, 67, 68, 69, 34, 35, 36, 37, 38, 39, 40, 41, 70, 71, 72, 46, 73, 74, 75, 76, 77, 78, 79, 80, 81, 82, 83, 84, 85, 86, 87, 88, 89, 90, 91, 92, 93, 94, 95, 96, 97, 98, 99, 31, 27, 32, 100, 101, 102, 103, 104, 26, 28, 105, 106, 107, 108, 109, 110, 111, 112, 113, 114, 115, 116, 117, 118, 119, 120, 121, 122, 123, 124, 125, 126, 127, 128, 129, 130, 131, 132, 133, 134, 135, 15, 2, 3, 5, 136, 17, 137, 18, 19, 20, 22, 23, 24, 25, 29, 30, 42, 43, 44, 45, 146, 147, 148, 149, 150, 151, 152, 153, 154, 155, 156, 157, 158, 159, 160, 161, 162, 163, 164, 165, 166, 167, 168, 169, 170, 171, 172, 173, 138, 139, 140, 141, 142, 143, 144, 145, 174, 175, 176] (by decide +kernel) (by decide +kernel)
set_option maxRecDepth 20000 in
theorem gX4_grow_X4_growPeriod : GoodIn wsX4_grow (wsV RX4 74 RX4 yX4_growPeriod wsX4_growPeriod) := goodIn_app (goodIn_of _ (by decide +kernel)) ggX4_grow_X4_growPeriod
theorem dX4_grow_0 : decode cX4_grow 0 = .ok (.aload_n 0, 1) := by decide +kernel
theorem dX4_grow_1 : decode cX4_grow 1 = .ok (.invokevirtual 49, 3) := by decide +kernel
theorem dX4_grow_4 : decode cX4_grow 4 = .ok (.aload_n 2, 1) := by decide +kernel
theorem dX4_grow_5 : decode cX4_grow 5 = .ok (.getfield 52, 3) := by decide +kernel
theorem dX4_grow_8 : decode cX4_grow 8 = .ok (.ifCond .eq 30, 3) := by decide +kernel
theorem dX4_grow_11 : decode cX4_grow 11 = .ok (.aload_n 0, 1) := by decide +kernel
theorem dX4_grow_12 : decode cX4_grow 12 = .ok (.aload_n 2, 1) := by decide +kernel
theorem dX4_grow_13 : decode cX4_grow 13 = .ok (.getfield 56, 3) := by decide +kernel
theorem dX4_grow_16 : decode cX4_grow 16 = .ok (.ifCond .eq 7, 3) := by decide +kernel
theorem dX4_grow_19 : decode cX4_grow 19 = .ok (.lconst 1, 1) := by decide +kernel
theorem dX4_grow_20 : decode cX4_grow 20 = .ok (.goto 4, 3) := by decide +kernel
theorem dX4_grow_23 : decode cX4_grow 23 = .ok (.lconst 0, 1) := by decide +kernel
theorem dX4_grow_24 : decode cX4_grow 24 = .ok (.putfield 36, 3) := by decide +kernel
theorem dX4_grow_27 : decode cX4_grow 27 = .ok (.aload_n 0, 1) := by decide +kernel
theorem dX4_grow_28 : decode cX4_grow 28 = .ok (.iconst 1, 1) := by decide +kernel
theorem dX4_grow_29 : decode cX4_grow 29 = .ok (.putfield 39, 3) := by decide +kernel
theorem dX4_grow_32 : decode cX4_grow 32 = .ok (.aload_n 0, 1) := by decide +kernel
theorem dX4_grow_33 : decode cX4_grow 33 = .ok (.iconst 0, 1) := by decide +kernel
theorem dX4_grow_34 : decode cX4_grow 34 = .ok (.putfield 43, 3) := by decide +kernel
theorem dX4_grow_37 : decode cX4_grow 37 = .ok (.return_, 1) := by decide +kernel
theorem dX4_grow_38 : decode cX4_grow 38 = .ok (.aload_n 0, 1) := by decide +kernel
theorem dX4_grow_39 : decode cX4_grow 39 = .ok (.getfield 25, 3) := by decide +kernel
theorem dX4_grow_42 : decode cX4_grow 42 = .ok (.iconst 0, 1) := by decide +kernel
theorem dX4_grow_43 : decode cX4_grow 43 = .ok (.putfield 59, 3) := by decide +kernel
theorem dX4_grow_46 : decode cX4_grow 46 = .ok (.aload_n 0, 1) := by decide +kernel
theorem dX4_grow_47 : decode cX4_grow 47 = .ok (.getfield 25, 3) := by decide +kernel
theorem dX4_grow_50 : decode cX4_grow 50 = .ok (.aload_n 2, 1) := by decide +kernel
theorem dX4_grow_51 : decode cX4_grow 51 = .ok (.lconst 1, 1) := by decide +kernel
theorem dX4_grow_52 : decode cX4_grow 52 = .ok (.iconst 0, 1) := by decide +kernel
theorem dX4_grow_53 : decode cX4_grow 53 = .ok (.iconst 0, 1) := by decide +kernel
theorem dX4_grow_54 : decode cX4_grow 54 = .ok (.invokevirtual 62, 3) := by decide +kernel
theorem dX4_grow_57 : decode cX4_grow 57 = .ok (.aload_n 2, 1) := by decide +kernel
theorem dX4_grow_58 : decode cX4_grow 58 = .ok (.getfield 66, 3) := by decide +kernel
theorem dX4_grow_61 : decode cX4_grow 61 = .ok (.iconst 1, 1) := by decide +kernel
theorem dX4_grow_62 : decode cX4_grow 62 = .ok (.iadd, 1) := by decide +kernel
theorem dX4_grow_63 : decode cX4_grow 63 = .ok (.istore_n 3, 1) := by decide +kernel
theorem dX4_grow_64 : decode cX4_grow 64 = .ok (.iload_n 3, 1) := by decide +kernel
theorem dX4_grow_65 : decode cX4_grow 65 = .ok (.aload_n 1, 1) := by decide +kernel
theorem dX4_grow_66 : decode cX4_grow 66 = .ok (.getfield 69, 3) := by decide +kernel
theorem dX4_grow_69 : decode cX4_grow 69 = .ok (.if_icmp .gt 15, 3) := by decide +kernel
theorem dX4_grow_72 : decode cX4_grow 72 = .ok (.aload_n 0, 1) := by decide +kernel
theorem dX4_grow_73 : decode cX4_grow 73 = .ok (.aload_n 1, 1) := by decide +kernel
theorem dX4_grow_74 : decode cX4_grow 74 = .ok (.iload_n 3, 1) := by decide +kernel
theorem dX4_grow_75 : decode cX4_grow 75 = .ok (.invokevirtual 74, 3) := by decide +kernel
theorem dX4_grow_78 : decode cX4_grow 78 = .ok (.iinc 3 1, 3) := by decide +kernel
theorem dX4_grow_81 : decode cX4_grow 81 = .ok (.goto (-17), 3) := by decide +kernel
theorem dX4_grow_84 : decode cX4_grow 84 = .ok (.aload_n 0, 1) := by decide +kernel
theorem dX4_grow_85 : decode cX4_grow 85 = .ok (.aload_n 0, 1) := by decide +kernel
theorem dX4_grow_86 : decode cX4_grow 86 = .ok (.getfield 25, 3) := by decide +kernel
theorem dX4_grow_89 : decode cX4_grow 89 = .ok (.getfield 59, 3) := by decide +kernel
theorem dX4_grow_92 : decode cX4_grow 92 = .ok (.putfield 39, 3) := by decide +kernel
theorem dX4_grow_95 : decode cX4_grow 95 = .ok (.return_, 1) := by decide +kernel
theorem dX4_endSumOf_0 : decode cX4_endSumOf 0 = .ok (.iload_n 1, 1) := by decide +kernel
theorem dX4_endSumOf_1 : decode cX4_endSumOf 1 = .ok (.ifCond .lt 21, 3) := by decide +kernel
theorem dX4_endSumOf_4 : decode cX4_endSumOf 4 = .ok (.iload_n 1, 1) := by decide +kernel
theorem dX4_endSumOf_5 : decode cX4_endSumOf 5 = .ok (.aload_n 0, 1) := by decide +kernel
theorem dX4_endSumOf_6 : decode cX4_endSumOf 6 = .ok (.getfield 18, 3) := by decide +kernel
theorem dX4_endSumOf_9 : decode cX4_endSumOf 9 = .ok (.arraylength, 1) := by decide +kernel
theorem dX4_endSumOf_10 : decode cX4_endSumOf 10 = .ok (.if_icmp .ge 12, 3) := by decide +kernel
theorem dX4_endSumOf_13 : decode cX4_endSumOf 13 = .ok (.aload_n 0, 1) := by decide +kernel
theorem dX4_endSumOf_14 : decode cX4_endSumOf 14 = .ok (.getfield 18, 3) := by decide +kernel
theorem dX4_endSumOf_17 : decode cX4_endSumOf 17 = .ok (.iload_n 1, 1) := by decide +kernel
theorem dX4_endSumOf_18 : decode cX4_endSumOf 18 = .ok (.laload, 1) := by decide +kernel
theorem dX4_endSumOf_19 : decode cX4_endSumOf 19 = .ok (.goto 4, 3) := by decide +kernel
theorem dX4_endSumOf_22 : decode cX4_endSumOf 22 = .ok (.lconst 0, 1) := by decide +kernel
theorem dX4_endSumOf_23 : decode cX4_endSumOf 23 = .ok (.lreturn, 1) := by decide +kernel
theorem dX4_clear_0 : decode cX4_clear 0 = .ok (.iconst 0, 1) := by decide +kernel
theorem dX4_clear_1 : decode cX4_clear 1 = .ok (.istore_n 1, 1) := by decide +kernel
theorem dX4_clear_2 : decode cX4_clear 2 = .ok (.iload_n 1, 1) := by decide +kernel
theorem dX4_clear_3 : decode cX4_clear 3 = .ok (.aload_n 0, 1) := by decide +kernel
theorem dX4_clear_4 : decode cX4_clear 4 = .ok (.getfield 18, 3) := by decide +kernel
theorem dX4_clear_7 : decode cX4_clear 7 = .ok (.arraylength, 1) := by decide +kernel
theorem dX4_clear_8 : decode cX4_clear 8 = .ok (.if_icmp .ge 16, 3) := by decide +kernel
theorem dX4_clear_11 : decode cX4_clear 11 = .ok (.aload_n 0, 1) := by decide +kernel
theorem dX4_clear_12 : decode cX4_clear 12 = .ok (.getfield 18, 3) := by decide +kernel
theorem dX4_clear_15 : decode cX4_clear 15 = .ok (.iload_n 1, 1) := by decide +kernel
theorem dX4_clear_16 : decode cX4_clear 16 = .ok (.lconst 0, 1) := by decide +kernel
theorem dX4_clear_17 : decode cX4_clear 17 = .ok (.lastore, 1) := by decide +kernel
theorem dX4_clear_18 : decode cX4_clear 18 = .ok (.iinc 1 1, 3) := by decide +kernel
theorem dX4_clear_21 : decode cX4_clear 21 = .ok (.goto (-19), 3) := by decide +kernel
theorem dX4_clear_24 : decode cX4_clear 24 = .ok (.aload_n 0, 1) := by decide +kernel
theorem dX4_clear_25 : decode cX4_clear 25 = .ok (.lconst 0, 1) := by decide +kernel
theorem dX4_clear_26 : decode cX4_clear 26 = .ok (.putfield 32, 3) := by decide +kernel
theorem dX4_clear_29 : decode cX4_clear 29 = .ok (.aload_n 0, 1) := by decide +kernel
theorem dX4_clear_30 : decode cX4_clear 30 = .ok (.lconst 0, 1) := by decide +kernel
theorem dX4_clear_31 : decode cX4_clear 31 = .ok (.putfield 36, 3) := by decide +kernel
theorem dX4_clear_34 : decode cX4_clear 34 = .ok (.aload_n 0, 1) := by decide +kernel
theorem dX4_clear_35 : decode cX4_clear 35 = .ok (.iconst (-1), 1) := by decide +kernel
theorem dX4_clear_36 : decode cX4_clear 36 = .ok (.putfield 43, 3) := by decide +kernel
theorem dX4_clear_39 : decode cX4_clear 39 = .ok (.aload_n 0, 1) := by decide +kernel
theorem dX4_clear_40 : decode cX4_clear 40 = .ok (.iconst 0, 1) := by decide +kernel
theorem dX4_clear_41 : decode cX4_clear 41 = .ok (.putfield 46, 3) := by decide +kernel
theorem dX4_clear_44 : decode cX4_clear 44 = .ok (.return_, 1) := by decide +kernel
set_option maxRecDepth 20000 in
theorem ggX4_growPeriod_X4_growBranch : GoodIn wsX4_growPeriod wsX4_growBranch := goodIn_r _ [8, 3, 9, 10, 11, 12, 13, 14, 15, 16, 1, 17, 18, 19, 20, 21, 22, 23, 24, 25, 26, 27, 28, 29, 30, 31, 32, 33, 34, 35, 36, 37, 38, 39, 40, 41, 42, 43, 44, 45, 46, 47, 48, 49, 50, 51, 52, 53, 54, 55, 56, 57, 58, 59, 60, 61, 62, 63, 64, 65, 66, 67, 68, 69, 70, 71, 72, 73, 74, 75, 76, 77, 78, 79, 80, 81, 82, 83, 84, 85, 86, 87, 88, 89, 90, 91, 92, 93, 94, 95, 96, 97, 98, 99, 100, 101, 102, 103, 104, 105, 106, 7, 107, 108, 109, 110, 111, 112, 113, 114, 115, 116, 117, 118, 119, 120, 121, 122, 123, 124, 125, 126, 127, 128, 129, 130, 131, 132, 133, 134, 135, 136, 137, 138, 139, 140, 141, 142, 143, 144, 145, 146, 147, 148, 149, 150, 151, 152, 153, 154, 155, 156, 157, 158, 159, 160, 161, 162, 163, 164, 165, 166] (by decide +kernel) (by decide +kernel)
set_option maxRecDepth 20000 in
theorem gX4_growPeriod_X4_growBranch : GoodIn wsX4_growPeriod (wsV RX4 78 RX4 yX4_growBranch wsX4_growBranch) := goodIn_app (goodIn_of _ (by decide +kernel)) ggX4_growPeriod_X4_growBranch
theorem dX4_growPeriod_0 : decode cX4_growPeriod 0 = .ok (.aload_n 0, 1) := by decide +kernel
theorem dX4_growPeriod_1 : decode cX4_growPeriod 1 = .ok (.getfield 29, 3) := by decide +kernel
theorem dX4_growPeriod_4 : decode cX4_growPeriod 4 = .ok (.iconst 0, 1) := by decide +kernel
theorem dX4_growPeriod_5 : decode cX4_growPeriod 5 = .ok (.putfield 59, 3) := by decide +kernel
theorem dX4_growPeriod_8 : decode cX4_growPeriod 8 = .ok (.iconst 0, 1) := by decide +kernel
theorem dX4_growPeriod_9 : decode cX4_growPeriod 9 = .ok (.istore_n 3, 1) := by decide +kernel
theorem dX4_growPeriod_10 : decode cX4_growPeriod 10 = .ok (.iload_n 3, 1) := by decide +kernel
theorem dX4_growPeriod_11 : decode cX4_growPeriod 11 = .ok (.aload_n 0, 1) := by decide +kernel
theorem dX4_growPeriod_12 : decode cX4_growPeriod 12 = .ok (.getfield 25, 3) := by decide +kernel
theorem dX4_growPeriod_15 : decode cX4_growPeriod 15 = .ok (.getfield 59, 3) := by decide +kernel
theorem dX4_growPeriod_18 : decode cX4_growPeriod 18 = .ok (.if_icmp .ge 25, 3) := by decide +kernel
theorem dX4_growPeriod_21 : decode cX4_growPeriod 21 = .ok (.aload_n 0, 1) := by decide +kernel
theorem dX4_growPeriod_22 : decode cX4_growPeriod 22 = .ok (.aload_n 1, 1) := by decide +kernel
theorem dX4_growPeriod_23 : decode cX4_growPeriod 23 = .ok (.iload_n 2, 1) := by decide +kernel
theorem dX4_growPeriod_24 : decode cX4_growPeriod 24 = .ok (.iload_n 3, 1) := by decide +kernel
theorem dX4_growPeriod_25 : decode cX4_growPeriod 25 = .ok (.iconst 1, 1) := by decide +kernel
theorem dX4_growPeriod_26 : decode cX4_growPeriod 26 = .ok (.invokevirtual 78, 3) := by decide +kernel
theorem dX4_growPeriod_29 : decode cX4_growPeriod 29 = .ok (.aload_n 0, 1) := by decide +kernel
theorem dX4_growPeriod_30 : decode cX4_growPeriod 30 = .ok (.aload_n 1, 1) := by decide +kernel
theorem dX4_growPeriod_31 : decode cX4_growPeriod 31 = .ok (.iload_n 2, 1) := by decide +kernel
theorem dX4_growPeriod_32 : decode cX4_growPeriod 32 = .ok (.iload_n 3, 1) := by decide +kernel
theorem dX4_growPeriod_33 : decode cX4_growPeriod 33 = .ok (.iconst 0, 1) := by decide +kernel
theorem dX4_growPeriod_34 : decode cX4_growPeriod 34 = .ok (.invokevirtual 78, 3) := by decide +kernel
theorem dX4_growPeriod_37 : decode cX4_growPeriod 37 = .ok (.iinc 3 1, 3) := by decide +kernel
theorem dX4_growPeriod_40 : decode cX4_growPeriod 40 = .ok (.goto (-30), 3) := by decide +kernel
theorem dX4_growPeriod_43 : decode cX4_growPeriod 43 = .ok (.aload_n 0, 1) := by decide +kernel
theorem dX4_growPeriod_44 : decode cX4_growPeriod 44 = .ok (.getfield 29, 3) := by decide +kernel
theorem dX4_growPeriod_47 : decode cX4_growPeriod 47 = .ok (.astore_n 3, 1) := by decide +kernel
theorem dX4_growPeriod_48 : decode cX4_growPeriod 48 = .ok (.aload_n 0, 1) := by decide +kernel
theorem dX4_growPeriod_49 : decode cX4_growPeriod 49 = .ok (.aload_n 0, 1) := by decide +kernel
theorem dX4_growPeriod_50 : decode cX4_growPeriod 50 = .ok (.getfield 25, 3) := by decide +kernel
theorem dX4_growPeriod_53 : decode cX4_growPeriod 53 = .ok (.putfield 29, 3) := by decide +kernel
theorem dX4_growPeriod_56 : decode cX4_growPeriod 56 = .ok (.aload_n 0, 1) := by decide +kernel
theorem dX4_growPeriod_57 : decode cX4_growPeriod 57 = .ok (.aload_n 3, 1) := by decide +kernel
theorem dX4_growPeriod_58 : decode cX4_growPeriod 58 = .ok (.putfield 25, 3) := by decide +kernel
theorem dX4_growPeriod_61 : decode cX4_growPeriod 61 = .ok (.return_, 1) := by decide +kernel
set_option maxRecDepth 20000 in
theorem ggX4_growBranch_X1_holds : GoodIn wsX4_growBranch wsX1_holds := goodIn_r _ [15, 16, 132, 133, 134, 135, 136, 137, 138, 139] (by decide +kernel) (by decide +kernel)
set_option maxRecDepth 20000 in
theorem gX4_growBranch_X1_holds : GoodIn wsX4_growBranch (wsV RX4 82 RX1 yX1_holds wsX1_holds) := goodIn_app (goodIn_of _ (by decide +kernel)) ggX4_growBranch_X1_holds
set_option maxRecDepth 20000 in
theorem ggX4_growBranch_X1_show : GoodIn wsX4_growBranch wsX1_show := goodIn_r _ [20, 21, 22, 23, 24, 25, 26, 27, 28, 29, 30, 31, 32, 33, 12, 13, 14, 15, 16, 151, 152, 153, 154, 155, 156, 157, 158, 132, 133, 134, 135, 136, 137, 138, 139] (by decide +kernel) (by decide +kernel)
set_option maxRecDepth 20000 in
theorem gX4_growBranch_X1_show : GoodIn wsX4_growBranch (wsV RX4 86 RX1 yX1_show wsX1_show) := goodIn_app (goodIn_of _ (by decide +kernel)) ggX4_growBranch_X1_show
set_option maxRecDepth 20000 in
theorem ggX4_growBranch_X3_move : GoodIn wsX4_growBranch wsX3_move := goodIn_r _ [38, 39, 40, 41, 42, 43, 44, 45, 46, 47, 48, 49, 50, 51, 52, 53, 54, 55, 56, 57, 58, 59, 60, 61, 62, 63, 64, 65, 66, 37, 67, 68, 69, 70, 71, 72, 73, 74, 75, 76, 77, 78, 79, 80, 81, 82, 83, 84, 85, 86, 87, 151, 152, 153, 154, 155, 156, 157, 158, 140, 141, 142, 143, 144, 145, 146, 147, 148, 149, 150, 159, 160, 161] (by decide +kernel) (by decide +kernel)
set_option maxRecDepth 20000 in
theorem gX4_growBranch_X3_move : GoodIn wsX4_growBranch (wsV RX4 90 RX3 yX3_move wsX3_move) := goodIn_app (goodIn_of _ (by decide +kernel)) ggX4_growBranch_X3_move
set_option maxRecDepth 20000 in
theorem ggX4_growBranch_X2_weightOf : GoodIn wsX4_growBranch wsX2_weightOf := goodIn_r _ [92, 93, 140, 141, 142, 143, 144, 145, 146, 147, 148, 149, 150] (by decide +kernel) (by decide +kernel)
set_option maxRecDepth 20000 in
theorem gX4_growBranch_X2_weightOf : GoodIn wsX4_growBranch (wsV RX4 97 RX2 yX2_weightOf wsX2_weightOf) := goodIn_app (goodIn_of _ (by decide +kernel)) ggX4_growBranch_X2_weightOf
set_option maxRecDepth 20000 in
theorem ggX4_growBranch_X5_wholeWeightOf : GoodIn wsX4_growBranch wsX5_wholeWeightOf := goodIn_r _ [96, 97] (by decide +kernel) (by decide +kernel)
set_option maxRecDepth 20000 in
theorem gX4_growBranch_X5_wholeWeightOf_n101 : GoodIn wsX4_growBranch (wsX5_wholeWeightOf) := ggX4_growBranch_X5_wholeWeightOf
set_option maxRecDepth 20000 in
theorem ggX4_growBranch_X4_end : GoodIn wsX4_growBranch wsX4_end := goodIn_r _ [102, 103, 2, 104, 105, 106, 107, 69, 62, 70, 108, 109, 61, 63, 123, 124, 125, 126, 127, 128, 129, 130, 131, 151, 152, 153, 154, 155, 156, 157, 158] (by decide +kernel) (by decide +kernel)
set_option maxRecDepth 20000 in
theorem gX4_growBranch_X4_end : GoodIn wsX4_growBranch (wsV RX4 115 RX4 yX4_end wsX4_end) := goodIn_app (goodIn_of _ (by decide +kernel)) ggX4_growBranch_X4_end
set_option maxRecDepth 20000 in
theorem ggX4_growBranch_X1_add : GoodIn wsX4_growBranch wsX1_add := goodIn_r _ [113, 114, 115, 116, 69, 62, 70, 117, 118, 61, 63, 16, 22, 23, 24, 25, 26, 27, 28, 29, 119, 120, 121, 14, 122, 33, 12, 13, 15, 132, 133, 134, 135, 136, 137, 138, 139, 151, 152, 153, 154, 155, 156, 157, 158] (by decide +kernel) (by decide +kernel)
set_option maxRecDepth 20000 in
theorem gX4_growBranch_X1_add : GoodIn wsX4_growBranch (wsV RX4 62 RX1 yX1_add wsX1_add) := goodIn_app (goodIn_of _ (by decide +kernel)) ggX4_growBranch_X1_add
theorem dX4_growBranch_0 : decode cX4_growBranch 0 = .ok (.aload_n 0, 1) := by decide +kernel
theorem dX4_growBranch_1 : decode cX4_growBranch 1 = .ok (.getfield 25, 3) := by decide +kernel
theorem dX4_growBranch_4 : decode cX4_growBranch 4 = .ok (.iload_n 3, 1) := by decide +kernel
theorem dX4_growBranch_5 : decode cX4_growBranch 5 = .ok (.invokevirtual 82, 3) := by decide +kernel
theorem dX4_growBranch_8 : decode cX4_growBranch 8 = .ok (.ifCond .ne 4, 3) := by decide +kernel
theorem dX4_growBranch_11 : decode cX4_growBranch 11 = .ok (.return_, 1) := by decide +kernel
theorem dX4_growBranch_12 : decode cX4_growBranch 12 = .ok (.aload_n 0, 1) := by decide +kernel
theorem dX4_growBranch_13 : decode cX4_growBranch 13 = .ok (.getfield 25, 3) := by decide +kernel
theorem dX4_growBranch_16 : decode cX4_growBranch 16 = .ok (.iload_n 3, 1) := by decide +kernel
theorem dX4_growBranch_17 : decode cX4_growBranch 17 = .ok (.iload_n 2, 1) := by decide +kernel
theorem dX4_growBranch_18 : decode cX4_growBranch 18 = .ok (.iconst 1, 1) := by decide +kernel
theorem dX4_growBranch_19 : decode cX4_growBranch 19 = .ok (.isub, 1) := by decide +kernel
theorem dX4_growBranch_20 : decode cX4_growBranch 20 = .ok (.aload_n 0, 1) := by decide +kernel
theorem dX4_growBranch_21 : decode cX4_growBranch 21 = .ok (.getfield 12, 3) := by decide +kernel
theorem dX4_growBranch_24 : decode cX4_growBranch 24 = .ok (.invokevirtual 86, 3) := by decide +kernel
theorem dX4_growBranch_27 : decode cX4_growBranch 27 = .ok (.aload_n 0, 1) := by decide +kernel
theorem dX4_growBranch_28 : decode cX4_growBranch 28 = .ok (.getfield 12, 3) := by decide +kernel
theorem dX4_growBranch_31 : decode cX4_growBranch 31 = .ok (.aload_n 1, 1) := by decide +kernel
theorem dX4_growBranch_32 : decode cX4_growBranch 32 = .ok (.iload 4, 2) := by decide +kernel
theorem dX4_growBranch_34 : decode cX4_growBranch 34 = .ok (.invokevirtual 90, 3) := by decide +kernel
theorem dX4_growBranch_37 : decode cX4_growBranch 37 = .ok (.aload_n 0, 1) := by decide +kernel
theorem dX4_growBranch_38 : decode cX4_growBranch 38 = .ok (.getfield 25, 3) := by decide +kernel
theorem dX4_growBranch_41 : decode cX4_growBranch 41 = .ok (.getfield 94, 3) := by decide +kernel
theorem dX4_growBranch_44 : decode cX4_growBranch 44 = .ok (.iload_n 3, 1) := by decide +kernel
theorem dX4_growBranch_45 : decode cX4_growBranch 45 = .ok (.laload, 1) := by decide +kernel
theorem dX4_growBranch_46 : decode cX4_growBranch 46 = .ok (.aload_n 1, 1) := by decide +kernel
theorem dX4_growBranch_47 : decode cX4_growBranch 47 = .ok (.iload 4, 2) := by decide +kernel
theorem dX4_growBranch_49 : decode cX4_growBranch 49 = .ok (.invokevirtual 97, 3) := by decide +kernel
theorem dX4_growBranch_52 : decode cX4_growBranch 52 = .ok (.i2l, 1) := by decide +kernel
theorem dX4_growBranch_53 : decode cX4_growBranch 53 = .ok (.lmul, 1) := by decide +kernel
theorem dX4_growBranch_54 : decode cX4_growBranch 54 = .ok (.lstore 5, 2) := by decide +kernel
theorem dX4_growBranch_56 : decode cX4_growBranch 56 = .ok (.lload 5, 2) := by decide +kernel
theorem dX4_growBranch_58 : decode cX4_growBranch 58 = .ok (.aload_n 1, 1) := by decide +kernel
theorem dX4_growBranch_59 : decode cX4_growBranch 59 = .ok (.getfield 69, 3) := by decide +kernel
theorem dX4_growBranch_62 : decode cX4_growBranch 62 = .ok (.iload_n 2, 1) := by decide +kernel
theorem dX4_growBranch_63 : decode cX4_growBranch 63 = .ok (.isub, 1) := by decide +kernel
theorem dX4_growBranch_64 : decode cX4_growBranch 64 = .ok (.invokestatic 101, 3) := by decide +kernel
theorem dX4_growBranch_67 : decode cX4_growBranch 67 = .ok (.lmul, 1) := by decide +kernel
theorem dX4_growBranch_68 : decode cX4_growBranch 68 = .ok (.lstore 7, 2) := by decide +kernel
theorem dX4_growBranch_70 : decode cX4_growBranch 70 = .ok (.aload_n 0, 1) := by decide +kernel
theorem dX4_growBranch_71 : decode cX4_growBranch 71 = .ok (.getfield 25, 3) := by decide +kernel
theorem dX4_growBranch_74 : decode cX4_growBranch 74 = .ok (.getfield 105, 3) := by decide +kernel
theorem dX4_growBranch_77 : decode cX4_growBranch 77 = .ok (.iload_n 3, 1) := by decide +kernel
theorem dX4_growBranch_78 : decode cX4_growBranch 78 = .ok (.iaload, 1) := by decide +kernel
theorem dX4_growBranch_79 : decode cX4_growBranch 79 = .ok (.aload_n 0, 1) := by decide +kernel
theorem dX4_growBranch_80 : decode cX4_growBranch 80 = .ok (.getfield 12, 3) := by decide +kernel
theorem dX4_growBranch_83 : decode cX4_growBranch 83 = .ok (.getfield 109, 3) := by decide +kernel
theorem dX4_growBranch_86 : decode cX4_growBranch 86 = .ok (.iadd, 1) := by decide +kernel
theorem dX4_growBranch_87 : decode cX4_growBranch 87 = .ok (.istore 9, 2) := by decide +kernel
theorem dX4_growBranch_89 : decode cX4_growBranch 89 = .ok (.aload_n 0, 1) := by decide +kernel
theorem dX4_growBranch_90 : decode cX4_growBranch 90 = .ok (.getfield 25, 3) := by decide +kernel
theorem dX4_growBranch_93 : decode cX4_growBranch 93 = .ok (.getfield 112, 3) := by decide +kernel
theorem dX4_growBranch_96 : decode cX4_growBranch 96 = .ok (.iload_n 3, 1) := by decide +kernel
theorem dX4_growBranch_97 : decode cX4_growBranch 97 = .ok (.iaload, 1) := by decide +kernel
theorem dX4_growBranch_98 : decode cX4_growBranch 98 = .ok (.aload_n 0, 1) := by decide +kernel
theorem dX4_growBranch_99 : decode cX4_growBranch 99 = .ok (.getfield 12, 3) := by decide +kernel
theorem dX4_growBranch_102 : decode cX4_growBranch 102 = .ok (.getfield 109, 3) := by decide +kernel
theorem dX4_growBranch_105 : decode cX4_growBranch 105 = .ok (.iadd, 1) := by decide +kernel
theorem dX4_growBranch_106 : decode cX4_growBranch 106 = .ok (.istore 10, 2) := by decide +kernel
theorem dX4_growBranch_108 : decode cX4_growBranch 108 = .ok (.aload_n 0, 1) := by decide +kernel
theorem dX4_growBranch_109 : decode cX4_growBranch 109 = .ok (.dup, 1) := by decide +kernel
theorem dX4_growBranch_110 : decode cX4_growBranch 110 = .ok (.getfield 32, 3) := by decide +kernel
theorem dX4_growBranch_113 : decode cX4_growBranch 113 = .ok (.lload 7, 2) := by decide +kernel
theorem dX4_growBranch_115 : decode cX4_growBranch 115 = .ok (.aload_n 0, 1) := by decide +kernel
theorem dX4_growBranch_116 : decode cX4_growBranch 116 = .ok (.getfield 12, 3) := by decide +kernel
theorem dX4_growBranch_119 : decode cX4_growBranch 119 = .ok (.getfield 109, 3) := by decide +kernel
theorem dX4_growBranch_122 : decode cX4_growBranch 122 = .ok (.i2l, 1) := by decide +kernel
theorem dX4_growBranch_123 : decode cX4_growBranch 123 = .ok (.lmul, 1) := by decide +kernel
theorem dX4_growBranch_124 : decode cX4_growBranch 124 = .ok (.ladd, 1) := by decide +kernel
theorem dX4_growBranch_125 : decode cX4_growBranch 125 = .ok (.putfield 32, 3) := by decide +kernel
theorem dX4_growBranch_128 : decode cX4_growBranch 128 = .ok (.aload_n 0, 1) := by decide +kernel
theorem dX4_growBranch_129 : decode cX4_growBranch 129 = .ok (.getfield 12, 3) := by decide +kernel
theorem dX4_growBranch_132 : decode cX4_growBranch 132 = .ok (.getfield 52, 3) := by decide +kernel
theorem dX4_growBranch_135 : decode cX4_growBranch 135 = .ok (.ifCond .eq 14, 3) := by decide +kernel
theorem dX4_growBranch_138 : decode cX4_growBranch 138 = .ok (.aload_n 0, 1) := by decide +kernel
theorem dX4_growBranch_139 : decode cX4_growBranch 139 = .ok (.iload_n 2, 1) := by decide +kernel
theorem dX4_growBranch_140 : decode cX4_growBranch 140 = .ok (.lload 7, 2) := by decide +kernel
theorem dX4_growBranch_142 : decode cX4_growBranch 142 = .ok (.iload 9, 2) := by decide +kernel
theorem dX4_growBranch_144 : decode cX4_growBranch 144 = .ok (.iload 10, 2) := by decide +kernel
theorem dX4_growBranch_146 : decode cX4_growBranch 146 = .ok (.invokevirtual 115, 3) := by decide +kernel
theorem dX4_growBranch_149 : decode cX4_growBranch 149 = .ok (.aload_n 0, 1) := by decide +kernel
theorem dX4_growBranch_150 : decode cX4_growBranch 150 = .ok (.getfield 12, 3) := by decide +kernel
theorem dX4_growBranch_153 : decode cX4_growBranch 153 = .ok (.getfield 52, 3) := by decide +kernel
theorem dX4_growBranch_156 : decode cX4_growBranch 156 = .ok (.ifCond .eq 11, 3) := by decide +kernel
theorem dX4_growBranch_159 : decode cX4_growBranch 159 = .ok (.iload_n 2, 1) := by decide +kernel
theorem dX4_growBranch_160 : decode cX4_growBranch 160 = .ok (.aload_n 1, 1) := by decide +kernel
theorem dX4_growBranch_161 : decode cX4_growBranch 161 = .ok (.getfield 69, 3) := by decide +kernel
theorem dX4_growBranch_164 : decode cX4_growBranch 164 = .ok (.if_icmp .ne 20, 3) := by decide +kernel
theorem dX4_growBranch_167 : decode cX4_growBranch 167 = .ok (.aload_n 0, 1) := by decide +kernel
theorem dX4_growBranch_168 : decode cX4_growBranch 168 = .ok (.getfield 29, 3) := by decide +kernel
theorem dX4_growBranch_171 : decode cX4_growBranch 171 = .ok (.aload_n 0, 1) := by decide +kernel
theorem dX4_growBranch_172 : decode cX4_growBranch 172 = .ok (.getfield 12, 3) := by decide +kernel
theorem dX4_growBranch_175 : decode cX4_growBranch 175 = .ok (.lload 5, 2) := by decide +kernel
theorem dX4_growBranch_177 : decode cX4_growBranch 177 = .ok (.iload 9, 2) := by decide +kernel
theorem dX4_growBranch_179 : decode cX4_growBranch 179 = .ok (.iload 10, 2) := by decide +kernel
theorem dX4_growBranch_181 : decode cX4_growBranch 181 = .ok (.invokevirtual 62, 3) := by decide +kernel
theorem dX4_growBranch_184 : decode cX4_growBranch 184 = .ok (.return_, 1) := by decide +kernel
theorem dX4_end_0 : decode cX4_end 0 = .ok (.iload_n 1, 1) := by decide +kernel
theorem dX4_end_1 : decode cX4_end 1 = .ok (.ifCond .lt 22, 3) := by decide +kernel
theorem dX4_end_4 : decode cX4_end 4 = .ok (.iload_n 1, 1) := by decide +kernel
theorem dX4_end_5 : decode cX4_end 5 = .ok (.aload_n 0, 1) := by decide +kernel
theorem dX4_end_6 : decode cX4_end 6 = .ok (.getfield 18, 3) := by decide +kernel
theorem dX4_end_9 : decode cX4_end 9 = .ok (.arraylength, 1) := by decide +kernel
theorem dX4_end_10 : decode cX4_end 10 = .ok (.if_icmp .ge 13, 3) := by decide +kernel
theorem dX4_end_13 : decode cX4_end 13 = .ok (.aload_n 0, 1) := by decide +kernel
theorem dX4_end_14 : decode cX4_end 14 = .ok (.getfield 18, 3) := by decide +kernel
theorem dX4_end_17 : decode cX4_end 17 = .ok (.iload_n 1, 1) := by decide +kernel
theorem dX4_end_18 : decode cX4_end 18 = .ok (.dup2, 1) := by decide +kernel
theorem dX4_end_19 : decode cX4_end 19 = .ok (.laload, 1) := by decide +kernel
theorem dX4_end_20 : decode cX4_end 20 = .ok (.lload_n 2, 1) := by decide +kernel
theorem dX4_end_21 : decode cX4_end 21 = .ok (.ladd, 1) := by decide +kernel
theorem dX4_end_22 : decode cX4_end 22 = .ok (.lastore, 1) := by decide +kernel
theorem dX4_end_23 : decode cX4_end 23 = .ok (.aload_n 0, 1) := by decide +kernel
theorem dX4_end_24 : decode cX4_end 24 = .ok (.getfield 12, 3) := by decide +kernel
theorem dX4_end_27 : decode cX4_end 27 = .ok (.getfield 56, 3) := by decide +kernel
theorem dX4_end_30 : decode cX4_end 30 = .ok (.ifCond .eq 13, 3) := by decide +kernel
theorem dX4_end_33 : decode cX4_end 33 = .ok (.aload_n 0, 1) := by decide +kernel
theorem dX4_end_34 : decode cX4_end 34 = .ok (.dup, 1) := by decide +kernel
theorem dX4_end_35 : decode cX4_end 35 = .ok (.getfield 36, 3) := by decide +kernel
theorem dX4_end_38 : decode cX4_end 38 = .ok (.lload_n 2, 1) := by decide +kernel
theorem dX4_end_39 : decode cX4_end 39 = .ok (.ladd, 1) := by decide +kernel
theorem dX4_end_40 : decode cX4_end 40 = .ok (.putfield 36, 3) := by decide +kernel
theorem dX4_end_43 : decode cX4_end 43 = .ok (.aload_n 0, 1) := by decide +kernel
theorem dX4_end_44 : decode cX4_end 44 = .ok (.aload_n 0, 1) := by decide +kernel
theorem dX4_end_45 : decode cX4_end 45 = .ok (.getfield 43, 3) := by decide +kernel
theorem dX4_end_48 : decode cX4_end 48 = .ok (.iconst (-1), 1) := by decide +kernel
theorem dX4_end_49 : decode cX4_end 49 = .ok (.if_icmp .ne 8, 3) := by decide +kernel
theorem dX4_end_52 : decode cX4_end 52 = .ok (.iload 4, 2) := by decide +kernel
theorem dX4_end_54 : decode cX4_end 54 = .ok (.goto 12, 3) := by decide +kernel
theorem dX4_end_57 : decode cX4_end 57 = .ok (.aload_n 0, 1) := by decide +kernel
theorem dX4_end_58 : decode cX4_end 58 = .ok (.getfield 43, 3) := by decide +kernel
theorem dX4_end_61 : decode cX4_end 61 = .ok (.iload 4, 2) := by decide +kernel
theorem dX4_end_63 : decode cX4_end 63 = .ok (.invokestatic 119, 3) := by decide +kernel
theorem dX4_end_66 : decode cX4_end 66 = .ok (.putfield 43, 3) := by decide +kernel
theorem dX4_end_69 : decode cX4_end 69 = .ok (.aload_n 0, 1) := by decide +kernel
theorem dX4_end_70 : decode cX4_end 70 = .ok (.aload_n 0, 1) := by decide +kernel
theorem dX4_end_71 : decode cX4_end 71 = .ok (.getfield 46, 3) := by decide +kernel
theorem dX4_end_74 : decode cX4_end 74 = .ok (.iload 5, 2) := by decide +kernel
theorem dX4_end_76 : decode cX4_end 76 = .ok (.invokestatic 125, 3) := by decide +kernel
theorem dX4_end_79 : decode cX4_end 79 = .ok (.putfield 46, 3) := by decide +kernel
theorem dX4_end_82 : decode cX4_end 82 = .ok (.return_, 1) := by decide +kernel
set_option maxRecDepth 20000 in
theorem ggX5_init_X2_init : GoodIn wsX5_init wsX2_init := goodIn_r _ [19, 20, 2, 3, 21, 22, 23, 24, 25, 26, 27, 28, 29, 30, 31, 32, 33, 34, 35, 36, 37, 38, 39, 40, 115, 116, 117, 82, 83, 84, 85, 86, 87, 88, 89, 90, 91, 92] (by decide +kernel) (by decide +kernel)
set_option maxRecDepth 20000 in
theorem gX5_init_X2_init_n11 : GoodIn wsX5_init (wsX2_init) := ggX5_init_X2_init
set_option maxRecDepth 20000 in
theorem ggX5_init_X3_init : GoodIn wsX5_init wsX3_init := goodIn_r _ [42, 43, 2, 3, 44, 45, 46, 47, 48, 49, 50, 51, 98, 99, 100, 101, 102, 103, 104, 105] (by decide +kernel) (by decide +kernel)
set_option maxRecDepth 20000 in
theorem gX5_init_X3_init_n18 : GoodIn wsX5_init (wsX3_init) := ggX5_init_X3_init
set_option maxRecDepth 20000 in
theorem ggX5_init_X4_init : GoodIn wsX5_init wsX4_init := goodIn_r _ [53, 54, 2, 3, 55, 9, 10, 56, 57, 58, 59, 60, 61, 62, 63, 64, 65, 66, 67, 68, 41, 42, 43, 44, 45, 46, 47, 48, 49, 50, 51, 69, 70, 71, 72, 73, 74, 75, 76, 77, 78, 79, 80, 81, 98, 99, 100, 101, 102, 103, 104, 105, 106, 107, 108, 109, 110, 111, 112, 113, 114, 118, 119, 120, 121, 122, 123, 124, 125] (by decide +kernel) (by decide +kernel)
set_option maxRecDepth 20000 in
theorem gX5_init_X4_init_n28 : GoodIn wsX5_init (wsX4_init) := ggX5_init_X4_init
theorem dX5_init_0 : decode cX5_init 0 = .ok (.aload_n 0, 1) := by decide +kernel
theorem dX5_init_1 : decode cX5_init 1 = .ok (.invokespecial 3, 3) := by decide +kernel
theorem dX5_init_4 : decode cX5_init 4 = .ok (.aload_n 0, 1) := by decide +kernel
theorem dX5_init_5 : decode cX5_init 5 = .ok (.new 9, 3) := by decide +kernel
theorem dX5_init_8 : decode cX5_init 8 = .ok (.dup, 1) := by decide +kernel
theorem dX5_init_9 : decode cX5_init 9 = .ok (.invokespecial 11, 3) := by decide +kernel
theorem dX5_init_12 : decode cX5_init 12 = .ok (.putfield 12, 3) := by decide +kernel
theorem dX5_init_15 : decode cX5_init 15 = .ok (.aload_n 0, 1) := by decide +kernel
theorem dX5_init_16 : decode cX5_init 16 = .ok (.new 16, 3) := by decide +kernel
theorem dX5_init_19 : decode cX5_init 19 = .ok (.dup, 1) := by decide +kernel
theorem dX5_init_20 : decode cX5_init 20 = .ok (.invokespecial 18, 3) := by decide +kernel
theorem dX5_init_23 : decode cX5_init 23 = .ok (.putfield 19, 3) := by decide +kernel
theorem dX5_init_26 : decode cX5_init 26 = .ok (.aload_n 0, 1) := by decide +kernel
theorem dX5_init_27 : decode cX5_init 27 = .ok (.new 16, 3) := by decide +kernel
theorem dX5_init_30 : decode cX5_init 30 = .ok (.dup, 1) := by decide +kernel
theorem dX5_init_31 : decode cX5_init 31 = .ok (.invokespecial 18, 3) := by decide +kernel
theorem dX5_init_34 : decode cX5_init 34 = .ok (.putfield 23, 3) := by decide +kernel
theorem dX5_init_37 : decode cX5_init 37 = .ok (.aload_n 0, 1) := by decide +kernel
theorem dX5_init_38 : decode cX5_init 38 = .ok (.new 26, 3) := by decide +kernel
theorem dX5_init_41 : decode cX5_init 41 = .ok (.dup, 1) := by decide +kernel
theorem dX5_init_42 : decode cX5_init 42 = .ok (.invokespecial 28, 3) := by decide +kernel
theorem dX5_init_45 : decode cX5_init 45 = .ok (.putfield 29, 3) := by decide +kernel
theorem dX5_init_48 : decode cX5_init 48 = .ok (.aload_n 0, 1) := by decide +kernel
theorem dX5_init_49 : decode cX5_init 49 = .ok (.iconst 0, 1) := by decide +kernel
theorem dX5_init_50 : decode cX5_init 50 = .ok (.putfield 33, 3) := by decide +kernel
theorem dX5_init_53 : decode cX5_init 53 = .ok (.return_, 1) := by decide +kernel
set_option maxRecDepth 20000 in
theorem ggX5_setAsset_X5_isAsset : GoodIn wsX5_setAsset wsX5_isAsset := goodIn_r _ [15] (by decide +kernel) (by decide +kernel)
set_option maxRecDepth 20000 in
theorem gX5_setAsset_X5_isAsset : GoodIn wsX5_setAsset (va_wsS RX5 37 yX5_isAsset wsX5_isAsset) := goodIn_app (goodIn_of _ (by decide +kernel)) ggX5_setAsset_X5_isAsset
set_option maxRecDepth 20000 in
theorem ggX5_setAsset_X5_isWithin : GoodIn wsX5_setAsset wsX5_isWithin := goodIn_r _ [18] (by decide +kernel) (by decide +kernel)
set_option maxRecDepth 20000 in
theorem gX5_setAsset_X5_isWithin : GoodIn wsX5_setAsset (va_wsS RX5 48 yX5_isWithin wsX5_isWithin) := goodIn_app (goodIn_of _ (by decide +kernel)) ggX5_setAsset_X5_isWithin
set_option maxRecDepth 20000 in
theorem ggX5_setAsset_X3_begin : GoodIn wsX5_setAsset wsX3_begin := goodIn_r _ [23, 24, 25, 26, 27, 28, 29, 30, 31, 32, 33, 34, 54, 55, 56, 57, 58, 59, 60, 61, 40, 41, 42, 43, 44, 45, 46, 47, 48, 49, 50, 51, 52, 53] (by decide +kernel) (by decide +kernel)
set_option maxRecDepth 20000 in
theorem gX5_setAsset_X3_begin : GoodIn wsX5_setAsset (wsV RX5 75 RX3 yX3_begin wsX3_begin) := goodIn_app (goodIn_of _ (by decide +kernel)) ggX5_setAsset_X3_begin
theorem dX5_setAsset_0 : decode cX5_setAsset 0 = .ok (.iload_n 1, 1) := by decide +kernel
theorem dX5_setAsset_1 : decode cX5_setAsset 1 = .ok (.invokestatic 37, 3) := by decide +kernel
theorem dX5_setAsset_4 : decode cX5_setAsset 4 = .ok (.ifCond .ne 13, 3) := by decide +kernel
theorem dX5_setAsset_7 : decode cX5_setAsset 7 = .ok (.new 41, 3) := by decide +kernel
theorem dX5_setAsset_10 : decode cX5_setAsset 10 = .ok (.dup, 1) := by decide +kernel
theorem dX5_setAsset_11 : decode cX5_setAsset 11 = .ok (.ldc 43, 2) := by decide +kernel
theorem dX5_setAsset_13 : decode cX5_setAsset 13 = .ok (.invokespecial 45, 3) := by decide +kernel
theorem dX5_setAsset_16 : decode cX5_setAsset 16 = .ok (.athrow, 1) := by decide +kernel
theorem dX5_setAsset_17 : decode cX5_setAsset 17 = .ok (.iload_n 2, 1) := by decide +kernel
theorem dX5_setAsset_18 : decode cX5_setAsset 18 = .ok (.bipush 100, 2) := by decide +kernel
theorem dX5_setAsset_20 : decode cX5_setAsset 20 = .ok (.sipush 1000, 3) := by decide +kernel
theorem dX5_setAsset_23 : decode cX5_setAsset 23 = .ok (.invokestatic 48, 3) := by decide +kernel
theorem dX5_setAsset_26 : decode cX5_setAsset 26 = .ok (.ifCond .eq 26, 3) := by decide +kernel
theorem dX5_setAsset_29 : decode cX5_setAsset 29 = .ok (.iload_n 3, 1) := by decide +kernel
theorem dX5_setAsset_30 : decode cX5_setAsset 30 = .ok (.iconst 0, 1) := by decide +kernel
theorem dX5_setAsset_31 : decode cX5_setAsset 31 = .ok (.sipush 200, 3) := by decide +kernel
theorem dX5_setAsset_34 : decode cX5_setAsset 34 = .ok (.invokestatic 48, 3) := by decide +kernel
theorem dX5_setAsset_37 : decode cX5_setAsset 37 = .ok (.ifCond .eq 15, 3) := by decide +kernel
theorem dX5_setAsset_40 : decode cX5_setAsset 40 = .ok (.iload 4, 2) := by decide +kernel
theorem dX5_setAsset_42 : decode cX5_setAsset 42 = .ok (.iconst 0, 1) := by decide +kernel
theorem dX5_setAsset_43 : decode cX5_setAsset 43 = .ok (.sipush 200, 3) := by decide +kernel
theorem dX5_setAsset_46 : decode cX5_setAsset 46 = .ok (.invokestatic 48, 3) := by decide +kernel
theorem dX5_setAsset_49 : decode cX5_setAsset 49 = .ok (.ifCond .ne 13, 3) := by decide +kernel
theorem dX5_setAsset_52 : decode cX5_setAsset 52 = .ok (.new 52, 3) := by decide +kernel
theorem dX5_setAsset_55 : decode cX5_setAsset 55 = .ok (.dup, 1) := by decide +kernel
theorem dX5_setAsset_56 : decode cX5_setAsset 56 = .ok (.ldc 54, 2) := by decide +kernel
theorem dX5_setAsset_58 : decode cX5_setAsset 58 = .ok (.invokespecial 56, 3) := by decide +kernel
theorem dX5_setAsset_61 : decode cX5_setAsset 61 = .ok (.athrow, 1) := by decide +kernel
theorem dX5_setAsset_62 : decode cX5_setAsset 62 = .ok (.iload_n 1, 1) := by decide +kernel
theorem dX5_setAsset_63 : decode cX5_setAsset 63 = .ok (.ifCond .ne 13, 3) := by decide +kernel
theorem dX5_setAsset_66 : decode cX5_setAsset 66 = .ok (.aload_n 0, 1) := by decide +kernel
theorem dX5_setAsset_67 : decode cX5_setAsset 67 = .ok (.getfield 12, 3) := by decide +kernel
theorem dX5_setAsset_70 : decode cX5_setAsset 70 = .ok (.getfield 57, 3) := by decide +kernel
theorem dX5_setAsset_73 : decode cX5_setAsset 73 = .ok (.goto 10, 3) := by decide +kernel
theorem dX5_setAsset_76 : decode cX5_setAsset 76 = .ok (.aload_n 0, 1) := by decide +kernel
theorem dX5_setAsset_77 : decode cX5_setAsset 77 = .ok (.getfield 12, 3) := by decide +kernel
theorem dX5_setAsset_80 : decode cX5_setAsset 80 = .ok (.getfield 61, 3) := by decide +kernel
theorem dX5_setAsset_83 : decode cX5_setAsset 83 = .ok (.astore 5, 2) := by decide +kernel
theorem dX5_setAsset_85 : decode cX5_setAsset 85 = .ok (.aload 5, 2) := by decide +kernel
theorem dX5_setAsset_87 : decode cX5_setAsset 87 = .ok (.iload_n 2, 1) := by decide +kernel
theorem dX5_setAsset_88 : decode cX5_setAsset 88 = .ok (.putfield 64, 3) := by decide +kernel
theorem dX5_setAsset_91 : decode cX5_setAsset 91 = .ok (.aload 5, 2) := by decide +kernel
theorem dX5_setAsset_93 : decode cX5_setAsset 93 = .ok (.iload_n 3, 1) := by decide +kernel
theorem dX5_setAsset_94 : decode cX5_setAsset 94 = .ok (.putfield 69, 3) := by decide +kernel
theorem dX5_setAsset_97 : decode cX5_setAsset 97 = .ok (.aload 5, 2) := by decide +kernel
theorem dX5_setAsset_99 : decode cX5_setAsset 99 = .ok (.iload 4, 2) := by decide +kernel
theorem dX5_setAsset_101 : decode cX5_setAsset 101 = .ok (.putfield 72, 3) := by decide +kernel
theorem dX5_setAsset_104 : decode cX5_setAsset 104 = .ok (.aload_n 0, 1) := by decide +kernel
theorem dX5_setAsset_105 : decode cX5_setAsset 105 = .ok (.getfield 19, 3) := by decide +kernel
theorem dX5_setAsset_108 : decode cX5_setAsset 108 = .ok (.aload_n 0, 1) := by decide +kernel
theorem dX5_setAsset_109 : decode cX5_setAsset 109 = .ok (.getfield 12, 3) := by decide +kernel
theorem dX5_setAsset_112 : decode cX5_setAsset 112 = .ok (.invokevirtual 75, 3) := by decide +kernel
theorem dX5_setAsset_115 : decode cX5_setAsset 115 = .ok (.return_, 1) := by decide +kernel
set_option maxRecDepth 20000 in
theorem ggX5_setMoves_X5_isWithin : GoodIn wsX5_setMoves wsX5_isWithin := goodIn_r _ [10] (by decide +kernel) (by decide +kernel)
set_option maxRecDepth 20000 in
theorem gX5_setMoves_X5_isWithin : GoodIn wsX5_setMoves (va_wsS RX5 48 yX5_isWithin wsX5_isWithin) := goodIn_app (goodIn_of _ (by decide +kernel)) ggX5_setMoves_X5_isWithin
set_option maxRecDepth 20000 in
theorem ggX5_setMoves_X3_begin : GoodIn wsX5_setMoves wsX3_begin := goodIn_r _ [15, 16, 17, 18, 19, 20, 21, 22, 23, 24, 25, 26, 43, 44, 45, 46, 47, 48, 49, 50, 32, 33, 34, 35, 36, 37, 38, 39, 40, 41, 42, 51, 52, 53] (by decide +kernel) (by decide +kernel)
set_option maxRecDepth 20000 in
theorem gX5_setMoves_X3_begin : GoodIn wsX5_setMoves (wsV RX5 75 RX3 yX3_begin wsX3_begin) := goodIn_app (goodIn_of _ (by decide +kernel)) ggX5_setMoves_X3_begin
theorem dX5_setMoves_0 : decode cX5_setMoves 0 = .ok (.iload_n 2, 1) := by decide +kernel
theorem dX5_setMoves_1 : decode cX5_setMoves 1 = .ok (.iconst 1, 1) := by decide +kernel
theorem dX5_setMoves_2 : decode cX5_setMoves 2 = .ok (.bipush 9, 2) := by decide +kernel
theorem dX5_setMoves_4 : decode cX5_setMoves 4 = .ok (.invokestatic 48, 3) := by decide +kernel
theorem dX5_setMoves_7 : decode cX5_setMoves 7 = .ok (.ifCond .ne 13, 3) := by decide +kernel
theorem dX5_setMoves_10 : decode cX5_setMoves 10 = .ok (.new 52, 3) := by decide +kernel
theorem dX5_setMoves_13 : decode cX5_setMoves 13 = .ok (.dup, 1) := by decide +kernel
theorem dX5_setMoves_14 : decode cX5_setMoves 14 = .ok (.ldc 79, 2) := by decide +kernel
theorem dX5_setMoves_16 : decode cX5_setMoves 16 = .ok (.invokespecial 56, 3) := by decide +kernel
theorem dX5_setMoves_19 : decode cX5_setMoves 19 = .ok (.athrow, 1) := by decide +kernel
theorem dX5_setMoves_20 : decode cX5_setMoves 20 = .ok (.aload_n 0, 1) := by decide +kernel
theorem dX5_setMoves_21 : decode cX5_setMoves 21 = .ok (.getfield 12, 3) := by decide +kernel
theorem dX5_setMoves_24 : decode cX5_setMoves 24 = .ok (.iload_n 1, 1) := by decide +kernel
theorem dX5_setMoves_25 : decode cX5_setMoves 25 = .ok (.putfield 81, 3) := by decide +kernel
theorem dX5_setMoves_28 : decode cX5_setMoves 28 = .ok (.aload_n 0, 1) := by decide +kernel
theorem dX5_setMoves_29 : decode cX5_setMoves 29 = .ok (.getfield 12, 3) := by decide +kernel
theorem dX5_setMoves_32 : decode cX5_setMoves 32 = .ok (.iload_n 2, 1) := by decide +kernel
theorem dX5_setMoves_33 : decode cX5_setMoves 33 = .ok (.putfield 85, 3) := by decide +kernel
theorem dX5_setMoves_36 : decode cX5_setMoves 36 = .ok (.aload_n 0, 1) := by decide +kernel
theorem dX5_setMoves_37 : decode cX5_setMoves 37 = .ok (.getfield 19, 3) := by decide +kernel
theorem dX5_setMoves_40 : decode cX5_setMoves 40 = .ok (.aload_n 0, 1) := by decide +kernel
theorem dX5_setMoves_41 : decode cX5_setMoves 41 = .ok (.getfield 12, 3) := by decide +kernel
theorem dX5_setMoves_44 : decode cX5_setMoves 44 = .ok (.invokevirtual 75, 3) := by decide +kernel
theorem dX5_setMoves_47 : decode cX5_setMoves 47 = .ok (.return_, 1) := by decide +kernel
set_option maxRecDepth 20000 in
theorem ggX5_setNote_X5_isWithin : GoodIn wsX5_setNote wsX5_isWithin := goodIn_r _ [13] (by decide +kernel) (by decide +kernel)
set_option maxRecDepth 20000 in
theorem gX5_setNote_X5_isWithin : GoodIn wsX5_setNote (va_wsS RX5 48 yX5_isWithin wsX5_isWithin) := goodIn_app (goodIn_of _ (by decide +kernel)) ggX5_setNote_X5_isWithin
set_option maxRecDepth 20000 in
theorem ggX5_setNote_X3_begin : GoodIn wsX5_setNote wsX3_begin := goodIn_r _ [18, 19, 20, 21, 22, 23, 24, 25, 26, 27, 28, 29, 46, 47, 48, 49, 50, 51, 52, 53, 35, 36, 37, 38, 39, 40, 41, 42, 43, 44, 45, 54, 55, 56] (by decide +kernel) (by decide +kernel)
set_option maxRecDepth 20000 in
theorem gX5_setNote_X3_begin : GoodIn wsX5_setNote (wsV RX5 75 RX3 yX3_begin wsX3_begin) := goodIn_app (goodIn_of _ (by decide +kernel)) ggX5_setNote_X3_begin
theorem dX5_setNote_0 : decode cX5_setNote 0 = .ok (.iload_n 1, 1) := by decide +kernel
theorem dX5_setNote_1 : decode cX5_setNote 1 = .ok (.iconst 1, 1) := by decide +kernel
theorem dX5_setNote_2 : decode cX5_setNote 2 = .ok (.bipush 8, 2) := by decide +kernel
theorem dX5_setNote_4 : decode cX5_setNote 4 = .ok (.invokestatic 48, 3) := by decide +kernel
theorem dX5_setNote_7 : decode cX5_setNote 7 = .ok (.ifCond .eq 48, 3) := by decide +kernel
theorem dX5_setNote_10 : decode cX5_setNote 10 = .ok (.iload_n 2, 1) := by decide +kernel
theorem dX5_setNote_11 : decode cX5_setNote 11 = .ok (.iconst 0, 1) := by decide +kernel
theorem dX5_setNote_12 : decode cX5_setNote 12 = .ok (.bipush 100, 2) := by decide +kernel
theorem dX5_setNote_14 : decode cX5_setNote 14 = .ok (.invokestatic 48, 3) := by decide +kernel
theorem dX5_setNote_17 : decode cX5_setNote 17 = .ok (.ifCond .eq 38, 3) := by decide +kernel
theorem dX5_setNote_20 : decode cX5_setNote 20 = .ok (.iload_n 3, 1) := by decide +kernel
theorem dX5_setNote_21 : decode cX5_setNote 21 = .ok (.iconst 0, 1) := by decide +kernel
theorem dX5_setNote_22 : decode cX5_setNote 22 = .ok (.sipush 150, 3) := by decide +kernel
theorem dX5_setNote_25 : decode cX5_setNote 25 = .ok (.invokestatic 48, 3) := by decide +kernel
theorem dX5_setNote_28 : decode cX5_setNote 28 = .ok (.ifCond .eq 27, 3) := by decide +kernel
theorem dX5_setNote_31 : decode cX5_setNote 31 = .ok (.iload 4, 2) := by decide +kernel
theorem dX5_setNote_33 : decode cX5_setNote 33 = .ok (.iconst 0, 1) := by decide +kernel
theorem dX5_setNote_34 : decode cX5_setNote 34 = .ok (.sipush 200, 3) := by decide +kernel
theorem dX5_setNote_37 : decode cX5_setNote 37 = .ok (.invokestatic 48, 3) := by decide +kernel
theorem dX5_setNote_40 : decode cX5_setNote 40 = .ok (.ifCond .eq 15, 3) := by decide +kernel
theorem dX5_setNote_43 : decode cX5_setNote 43 = .ok (.iload 5, 2) := by decide +kernel
theorem dX5_setNote_45 : decode cX5_setNote 45 = .ok (.iconst 0, 1) := by decide +kernel
theorem dX5_setNote_46 : decode cX5_setNote 46 = .ok (.sipush 500, 3) := by decide +kernel
theorem dX5_setNote_49 : decode cX5_setNote 49 = .ok (.invokestatic 48, 3) := by decide +kernel
theorem dX5_setNote_52 : decode cX5_setNote 52 = .ok (.ifCond .ne 13, 3) := by decide +kernel
theorem dX5_setNote_55 : decode cX5_setNote 55 = .ok (.new 52, 3) := by decide +kernel
theorem dX5_setNote_58 : decode cX5_setNote 58 = .ok (.dup, 1) := by decide +kernel
theorem dX5_setNote_59 : decode cX5_setNote 59 = .ok (.ldc 88, 2) := by decide +kernel
theorem dX5_setNote_61 : decode cX5_setNote 61 = .ok (.invokespecial 56, 3) := by decide +kernel
theorem dX5_setNote_64 : decode cX5_setNote 64 = .ok (.athrow, 1) := by decide +kernel
theorem dX5_setNote_65 : decode cX5_setNote 65 = .ok (.aload_n 0, 1) := by decide +kernel
theorem dX5_setNote_66 : decode cX5_setNote 66 = .ok (.getfield 12, 3) := by decide +kernel
theorem dX5_setNote_69 : decode cX5_setNote 69 = .ok (.iload_n 1, 1) := by decide +kernel
theorem dX5_setNote_70 : decode cX5_setNote 70 = .ok (.putfield 90, 3) := by decide +kernel
theorem dX5_setNote_73 : decode cX5_setNote 73 = .ok (.aload_n 0, 1) := by decide +kernel
theorem dX5_setNote_74 : decode cX5_setNote 74 = .ok (.getfield 12, 3) := by decide +kernel
theorem dX5_setNote_77 : decode cX5_setNote 77 = .ok (.iload_n 2, 1) := by decide +kernel
theorem dX5_setNote_78 : decode cX5_setNote 78 = .ok (.putfield 93, 3) := by decide +kernel
theorem dX5_setNote_81 : decode cX5_setNote 81 = .ok (.aload_n 0, 1) := by decide +kernel
theorem dX5_setNote_82 : decode cX5_setNote 82 = .ok (.getfield 12, 3) := by decide +kernel
theorem dX5_setNote_85 : decode cX5_setNote 85 = .ok (.iload_n 3, 1) := by decide +kernel
theorem dX5_setNote_86 : decode cX5_setNote 86 = .ok (.putfield 96, 3) := by decide +kernel
theorem dX5_setNote_89 : decode cX5_setNote 89 = .ok (.aload_n 0, 1) := by decide +kernel
theorem dX5_setNote_90 : decode cX5_setNote 90 = .ok (.getfield 12, 3) := by decide +kernel
theorem dX5_setNote_93 : decode cX5_setNote 93 = .ok (.iload 4, 2) := by decide +kernel
theorem dX5_setNote_95 : decode cX5_setNote 95 = .ok (.putfield 99, 3) := by decide +kernel
theorem dX5_setNote_98 : decode cX5_setNote 98 = .ok (.aload_n 0, 1) := by decide +kernel
theorem dX5_setNote_99 : decode cX5_setNote 99 = .ok (.getfield 12, 3) := by decide +kernel
theorem dX5_setNote_102 : decode cX5_setNote 102 = .ok (.iload 5, 2) := by decide +kernel
theorem dX5_setNote_104 : decode cX5_setNote 104 = .ok (.putfield 102, 3) := by decide +kernel
theorem dX5_setNote_107 : decode cX5_setNote 107 = .ok (.aload_n 0, 1) := by decide +kernel
theorem dX5_setNote_108 : decode cX5_setNote 108 = .ok (.getfield 19, 3) := by decide +kernel
theorem dX5_setNote_111 : decode cX5_setNote 111 = .ok (.aload_n 0, 1) := by decide +kernel
theorem dX5_setNote_112 : decode cX5_setNote 112 = .ok (.getfield 12, 3) := by decide +kernel
theorem dX5_setNote_115 : decode cX5_setNote 115 = .ok (.invokevirtual 75, 3) := by decide +kernel
theorem dX5_setNote_118 : decode cX5_setNote 118 = .ok (.return_, 1) := by decide +kernel
set_option maxRecDepth 20000 in
theorem ggX5_setKind_X3_begin : GoodIn wsX5_setKind wsX3_begin := goodIn_r _ [9, 10, 11, 12, 13, 14, 15, 16, 17, 18, 19, 20, 37, 38, 39, 40, 41, 42, 43, 44, 26, 27, 28, 29, 30, 31, 32, 33, 34, 35, 36, 45, 46, 47] (by decide +kernel) (by decide +kernel)
set_option maxRecDepth 20000 in
theorem gX5_setKind_X3_begin : GoodIn wsX5_setKind (wsV RX5 75 RX3 yX3_begin wsX3_begin) := goodIn_app (goodIn_of _ (by decide +kernel)) ggX5_setKind_X3_begin
theorem dX5_setKind_0 : decode cX5_setKind 0 = .ok (.aload_n 0, 1) := by decide +kernel
theorem dX5_setKind_1 : decode cX5_setKind 1 = .ok (.getfield 12, 3) := by decide +kernel
theorem dX5_setKind_4 : decode cX5_setKind 4 = .ok (.iload_n 1, 1) := by decide +kernel
theorem dX5_setKind_5 : decode cX5_setKind 5 = .ok (.putfield 105, 3) := by decide +kernel
theorem dX5_setKind_8 : decode cX5_setKind 8 = .ok (.aload_n 0, 1) := by decide +kernel
theorem dX5_setKind_9 : decode cX5_setKind 9 = .ok (.getfield 12, 3) := by decide +kernel
theorem dX5_setKind_12 : decode cX5_setKind 12 = .ok (.iload_n 2, 1) := by decide +kernel
theorem dX5_setKind_13 : decode cX5_setKind 13 = .ok (.putfield 108, 3) := by decide +kernel
theorem dX5_setKind_16 : decode cX5_setKind 16 = .ok (.aload_n 0, 1) := by decide +kernel
theorem dX5_setKind_17 : decode cX5_setKind 17 = .ok (.getfield 19, 3) := by decide +kernel
theorem dX5_setKind_20 : decode cX5_setKind 20 = .ok (.aload_n 0, 1) := by decide +kernel
theorem dX5_setKind_21 : decode cX5_setKind 21 = .ok (.getfield 12, 3) := by decide +kernel
theorem dX5_setKind_24 : decode cX5_setKind 24 = .ok (.invokevirtual 75, 3) := by decide +kernel
theorem dX5_setKind_27 : decode cX5_setKind 27 = .ok (.return_, 1) := by decide +kernel
set_option maxRecDepth 20000 in
theorem ggX5_tell_X3_move : GoodIn wsX5_tell wsX3_move := goodIn_r _ [13, 14, 15, 16, 17, 18, 19, 20, 21, 22, 23, 24, 25, 26, 27, 28, 29, 30, 31, 32, 33, 34, 35, 36, 37, 38, 39, 40, 41, 12, 42, 43, 44, 45, 46, 47, 48, 49, 50, 51, 52, 53, 54, 55, 56, 57, 58, 59, 60, 61, 62, 68, 69, 70, 71, 72, 73, 74, 75, 76, 77, 78, 79, 80, 81, 82, 83, 84, 85, 86, 87, 88, 89] (by decide +kernel) (by decide +kernel)
set_option maxRecDepth 20000 in
theorem gX5_tell_X3_move : GoodIn wsX5_tell (wsV RX5 122 RX3 yX3_move wsX3_move) := goodIn_app (goodIn_of _ (by decide +kernel)) ggX5_tell_X3_move
theorem dX5_tell_0 : decode cX5_tell 0 = .ok (.aload_n 0, 1) := by decide +kernel
theorem dX5_tell_1 : decode cX5_tell 1 = .ok (.getfield 19, 3) := by decide +kernel
theorem dX5_tell_4 : decode cX5_tell 4 = .ok (.getfield 111, 3) := by decide +kernel
theorem dX5_tell_7 : decode cX5_tell 7 = .ok (.ifCond .eq 13, 3) := by decide +kernel
theorem dX5_tell_10 : decode cX5_tell 10 = .ok (.new 114, 3) := by decide +kernel
theorem dX5_tell_13 : decode cX5_tell 13 = .ok (.dup, 1) := by decide +kernel
theorem dX5_tell_14 : decode cX5_tell 14 = .ok (.ldc 116, 2) := by decide +kernel
theorem dX5_tell_16 : decode cX5_tell 16 = .ok (.invokespecial 118, 3) := by decide +kernel
theorem dX5_tell_19 : decode cX5_tell 19 = .ok (.athrow, 1) := by decide +kernel
theorem dX5_tell_20 : decode cX5_tell 20 = .ok (.iconst 1, 1) := by decide +kernel
theorem dX5_tell_21 : decode cX5_tell 21 = .ok (.aload_n 0, 1) := by decide +kernel
theorem dX5_tell_22 : decode cX5_tell 22 = .ok (.getfield 19, 3) := by decide +kernel
theorem dX5_tell_25 : decode cX5_tell 25 = .ok (.getfield 119, 3) := by decide +kernel
theorem dX5_tell_28 : decode cX5_tell 28 = .ok (.ishl, 1) := by decide +kernel
theorem dX5_tell_29 : decode cX5_tell 29 = .ok (.istore_n 2, 1) := by decide +kernel
theorem dX5_tell_30 : decode cX5_tell 30 = .ok (.aload_n 0, 1) := by decide +kernel
theorem dX5_tell_31 : decode cX5_tell 31 = .ok (.iload_n 1, 1) := by decide +kernel
theorem dX5_tell_32 : decode cX5_tell 32 = .ok (.ifCond .eq 12, 3) := by decide +kernel
theorem dX5_tell_35 : decode cX5_tell 35 = .ok (.aload_n 0, 1) := by decide +kernel
theorem dX5_tell_36 : decode cX5_tell 36 = .ok (.getfield 33, 3) := by decide +kernel
theorem dX5_tell_39 : decode cX5_tell 39 = .ok (.iload_n 2, 1) := by decide +kernel
theorem dX5_tell_40 : decode cX5_tell 40 = .ok (.ior, 1) := by decide +kernel
theorem dX5_tell_41 : decode cX5_tell 41 = .ok (.goto 11, 3) := by decide +kernel
theorem dX5_tell_44 : decode cX5_tell 44 = .ok (.aload_n 0, 1) := by decide +kernel
theorem dX5_tell_45 : decode cX5_tell 45 = .ok (.getfield 33, 3) := by decide +kernel
theorem dX5_tell_48 : decode cX5_tell 48 = .ok (.iload_n 2, 1) := by decide +kernel
theorem dX5_tell_49 : decode cX5_tell 49 = .ok (.iconst (-1), 1) := by decide +kernel
theorem dX5_tell_50 : decode cX5_tell 50 = .ok (.ixor, 1) := by decide +kernel
theorem dX5_tell_51 : decode cX5_tell 51 = .ok (.iand, 1) := by decide +kernel
theorem dX5_tell_52 : decode cX5_tell 52 = .ok (.putfield 33, 3) := by decide +kernel
theorem dX5_tell_55 : decode cX5_tell 55 = .ok (.aload_n 0, 1) := by decide +kernel
theorem dX5_tell_56 : decode cX5_tell 56 = .ok (.getfield 19, 3) := by decide +kernel
theorem dX5_tell_59 : decode cX5_tell 59 = .ok (.aload_n 0, 1) := by decide +kernel
theorem dX5_tell_60 : decode cX5_tell 60 = .ok (.getfield 12, 3) := by decide +kernel
theorem dX5_tell_63 : decode cX5_tell 63 = .ok (.iload_n 1, 1) := by decide +kernel
theorem dX5_tell_64 : decode cX5_tell 64 = .ok (.invokevirtual 122, 3) := by decide +kernel
theorem dX5_tell_67 : decode cX5_tell 67 = .ok (.aload_n 0, 1) := by decide +kernel
theorem dX5_tell_68 : decode cX5_tell 68 = .ok (.getfield 19, 3) := by decide +kernel
theorem dX5_tell_71 : decode cX5_tell 71 = .ok (.getfield 126, 3) := by decide +kernel
theorem dX5_tell_74 : decode cX5_tell 74 = .ok (.ireturn, 1) := by decide +kernel
set_option maxRecDepth 20000 in
theorem ggX5_takeBack_X3_begin : GoodIn wsX5_takeBack wsX3_begin := goodIn_r _ [12, 13, 14, 15, 16, 17, 18, 19, 20, 21, 22, 23, 76, 77, 78, 79, 80, 81, 82, 83, 84, 85, 86, 87, 88, 89, 90, 91, 92, 93, 94, 95, 96, 97] (by decide +kernel) (by decide +kernel)
set_option maxRecDepth 20000 in
theorem gX5_takeBack_X3_begin : GoodIn wsX5_takeBack (wsV RX5 75 RX3 yX3_begin wsX3_begin) := goodIn_app (goodIn_of _ (by decide +kernel)) ggX5_takeBack_X3_begin
set_option maxRecDepth 20000 in
theorem ggX5_takeBack_X5_isUpAt : GoodIn wsX5_takeBack wsX5_isUpAt := goodIn_r _ [27] (by decide +kernel) (by decide +kernel)
set_option maxRecDepth 20000 in
theorem gX5_takeBack_X5_isUpAt : GoodIn wsX5_takeBack (va_wsS RX5 131 yX5_isUpAt wsX5_isUpAt) := goodIn_app (goodIn_of _ (by decide +kernel)) ggX5_takeBack_X5_isUpAt
set_option maxRecDepth 20000 in
theorem ggX5_takeBack_X3_move : GoodIn wsX5_takeBack wsX3_move := goodIn_r _ [31, 13, 14, 16, 17, 18, 32, 33, 34, 35, 20, 22, 36, 21, 23, 37, 38, 39, 40, 41, 42, 43, 44, 45, 46, 47, 48, 49, 50, 11, 51, 52, 53, 54, 55, 56, 57, 58, 59, 60, 61, 62, 63, 64, 19, 65, 66, 67, 68, 69, 70, 76, 77, 78, 79, 80, 81, 82, 83, 84, 85, 86, 87, 88, 89, 90, 91, 92, 93, 94, 95, 96, 97] (by decide +kernel) (by decide +kernel)
set_option maxRecDepth 20000 in
theorem gX5_takeBack_X3_move : GoodIn wsX5_takeBack (wsV RX5 122 RX3 yX3_move wsX3_move) := goodIn_app (goodIn_of _ (by decide +kernel)) ggX5_takeBack_X3_move
theorem dX5_takeBack_0 : decode cX5_takeBack 0 = .ok (.aload_n 0, 1) := by decide +kernel
theorem dX5_takeBack_1 : decode cX5_takeBack 1 = .ok (.getfield 19, 3) := by decide +kernel
theorem dX5_takeBack_4 : decode cX5_takeBack 4 = .ok (.getfield 119, 3) := by decide +kernel
theorem dX5_takeBack_7 : decode cX5_takeBack 7 = .ok (.iconst 1, 1) := by decide +kernel
theorem dX5_takeBack_8 : decode cX5_takeBack 8 = .ok (.if_icmp .ge 13, 3) := by decide +kernel
theorem dX5_takeBack_11 : decode cX5_takeBack 11 = .ok (.new 114, 3) := by decide +kernel
theorem dX5_takeBack_14 : decode cX5_takeBack 14 = .ok (.dup, 1) := by decide +kernel
theorem dX5_takeBack_15 : decode cX5_takeBack 15 = .ok (.ldc 129, 2) := by decide +kernel
theorem dX5_takeBack_17 : decode cX5_takeBack 17 = .ok (.invokespecial 118, 3) := by decide +kernel
theorem dX5_takeBack_20 : decode cX5_takeBack 20 = .ok (.athrow, 1) := by decide +kernel
theorem dX5_takeBack_21 : decode cX5_takeBack 21 = .ok (.aload_n 0, 1) := by decide +kernel
theorem dX5_takeBack_22 : decode cX5_takeBack 22 = .ok (.getfield 19, 3) := by decide +kernel
theorem dX5_takeBack_25 : decode cX5_takeBack 25 = .ok (.getfield 126, 3) := by decide +kernel
theorem dX5_takeBack_28 : decode cX5_takeBack 28 = .ok (.istore_n 1, 1) := by decide +kernel
theorem dX5_takeBack_29 : decode cX5_takeBack 29 = .ok (.aload_n 0, 1) := by decide +kernel
theorem dX5_takeBack_30 : decode cX5_takeBack 30 = .ok (.getfield 19, 3) := by decide +kernel
theorem dX5_takeBack_33 : decode cX5_takeBack 33 = .ok (.getfield 119, 3) := by decide +kernel
theorem dX5_takeBack_36 : decode cX5_takeBack 36 = .ok (.iconst 1, 1) := by decide +kernel
theorem dX5_takeBack_37 : decode cX5_takeBack 37 = .ok (.isub, 1) := by decide +kernel
theorem dX5_takeBack_38 : decode cX5_takeBack 38 = .ok (.istore_n 2, 1) := by decide +kernel
theorem dX5_takeBack_39 : decode cX5_takeBack 39 = .ok (.aload_n 0, 1) := by decide +kernel
theorem dX5_takeBack_40 : decode cX5_takeBack 40 = .ok (.getfield 19, 3) := by decide +kernel
theorem dX5_takeBack_43 : decode cX5_takeBack 43 = .ok (.aload_n 0, 1) := by decide +kernel
theorem dX5_takeBack_44 : decode cX5_takeBack 44 = .ok (.getfield 12, 3) := by decide +kernel
theorem dX5_takeBack_47 : decode cX5_takeBack 47 = .ok (.invokevirtual 75, 3) := by decide +kernel
theorem dX5_takeBack_50 : decode cX5_takeBack 50 = .ok (.iconst 0, 1) := by decide +kernel
theorem dX5_takeBack_51 : decode cX5_takeBack 51 = .ok (.istore_n 3, 1) := by decide +kernel
theorem dX5_takeBack_52 : decode cX5_takeBack 52 = .ok (.iload_n 3, 1) := by decide +kernel
theorem dX5_takeBack_53 : decode cX5_takeBack 53 = .ok (.iload_n 2, 1) := by decide +kernel
theorem dX5_takeBack_54 : decode cX5_takeBack 54 = .ok (.if_icmp .ge 28, 3) := by decide +kernel
theorem dX5_takeBack_57 : decode cX5_takeBack 57 = .ok (.aload_n 0, 1) := by decide +kernel
theorem dX5_takeBack_58 : decode cX5_takeBack 58 = .ok (.getfield 19, 3) := by decide +kernel
theorem dX5_takeBack_61 : decode cX5_takeBack 61 = .ok (.aload_n 0, 1) := by decide +kernel
theorem dX5_takeBack_62 : decode cX5_takeBack 62 = .ok (.getfield 12, 3) := by decide +kernel
theorem dX5_takeBack_65 : decode cX5_takeBack 65 = .ok (.aload_n 0, 1) := by decide +kernel
theorem dX5_takeBack_66 : decode cX5_takeBack 66 = .ok (.getfield 33, 3) := by decide +kernel
theorem dX5_takeBack_69 : decode cX5_takeBack 69 = .ok (.iload_n 3, 1) := by decide +kernel
theorem dX5_takeBack_70 : decode cX5_takeBack 70 = .ok (.invokestatic 131, 3) := by decide +kernel
theorem dX5_takeBack_73 : decode cX5_takeBack 73 = .ok (.invokevirtual 122, 3) := by decide +kernel
theorem dX5_takeBack_76 : decode cX5_takeBack 76 = .ok (.iinc 3 1, 3) := by decide +kernel
theorem dX5_takeBack_79 : decode cX5_takeBack 79 = .ok (.goto (-27), 3) := by decide +kernel
theorem dX5_takeBack_82 : decode cX5_takeBack 82 = .ok (.iload_n 1, 1) := by decide +kernel
theorem dX5_takeBack_83 : decode cX5_takeBack 83 = .ok (.ireturn, 1) := by decide +kernel
theorem dX5_told_0 : decode cX5_told 0 = .ok (.aload_n 0, 1) := by decide +kernel
theorem dX5_told_1 : decode cX5_told 1 = .ok (.getfield 19, 3) := by decide +kernel
theorem dX5_told_4 : decode cX5_told 4 = .ok (.getfield 119, 3) := by decide +kernel
theorem dX5_told_7 : decode cX5_told 7 = .ok (.ireturn, 1) := by decide +kernel
set_option maxRecDepth 20000 in
theorem ggX5_price_X5_isAsset : GoodIn wsX5_price wsX5_isAsset := goodIn_r _ [9] (by decide +kernel) (by decide +kernel)
set_option maxRecDepth 20000 in
theorem gX5_price_X5_isAsset : GoodIn wsX5_price (va_wsS RX5 37 yX5_isAsset wsX5_isAsset) := goodIn_app (goodIn_of _ (by decide +kernel)) ggX5_price_X5_isAsset
theorem dX5_price_0 : decode cX5_price 0 = .ok (.iload_n 1, 1) := by decide +kernel
theorem dX5_price_1 : decode cX5_price 1 = .ok (.invokestatic 37, 3) := by decide +kernel
theorem dX5_price_4 : decode cX5_price 4 = .ok (.ifCond .ne 13, 3) := by decide +kernel
theorem dX5_price_7 : decode cX5_price 7 = .ok (.new 41, 3) := by decide +kernel
theorem dX5_price_10 : decode cX5_price 10 = .ok (.dup, 1) := by decide +kernel
theorem dX5_price_11 : decode cX5_price 11 = .ok (.ldc 43, 2) := by decide +kernel
theorem dX5_price_13 : decode cX5_price 13 = .ok (.invokespecial 45, 3) := by decide +kernel
theorem dX5_price_16 : decode cX5_price 16 = .ok (.athrow, 1) := by decide +kernel
theorem dX5_price_17 : decode cX5_price 17 = .ok (.iload_n 1, 1) := by decide +kernel
theorem dX5_price_18 : decode cX5_price 18 = .ok (.ifCond .ne 13, 3) := by decide +kernel
theorem dX5_price_21 : decode cX5_price 21 = .ok (.aload_n 0, 1) := by decide +kernel
theorem dX5_price_22 : decode cX5_price 22 = .ok (.getfield 19, 3) := by decide +kernel
theorem dX5_price_25 : decode cX5_price 25 = .ok (.getfield 135, 3) := by decide +kernel
theorem dX5_price_28 : decode cX5_price 28 = .ok (.goto 10, 3) := by decide +kernel
theorem dX5_price_31 : decode cX5_price 31 = .ok (.aload_n 0, 1) := by decide +kernel
theorem dX5_price_32 : decode cX5_price 32 = .ok (.getfield 19, 3) := by decide +kernel
theorem dX5_price_35 : decode cX5_price 35 = .ok (.getfield 138, 3) := by decide +kernel
theorem dX5_price_38 : decode cX5_price 38 = .ok (.ireturn, 1) := by decide +kernel
set_option maxRecDepth 20000 in
theorem ggX5_worst_X3_worstLevel : GoodIn wsX5_worst wsX3_worstLevel := goodIn_r _ [7, 8, 9, 10, 11, 12, 13, 14, 15, 16, 17, 18, 19, 20, 21, 27, 28, 29, 30, 31, 32, 33, 34, 35, 36, 37, 38, 39, 40, 41, 42, 43, 44, 45, 46, 47, 48] (by decide +kernel) (by decide +kernel)
set_option maxRecDepth 20000 in
theorem gX5_worst_X3_worstLevel : GoodIn wsX5_worst (wsV RX5 141 RX3 yX3_worstLevel wsX3_worstLevel) := goodIn_app (goodIn_of _ (by decide +kernel)) ggX5_worst_X3_worstLevel
theorem dX5_worst_0 : decode cX5_worst 0 = .ok (.aload_n 0, 1) := by decide +kernel
theorem dX5_worst_1 : decode cX5_worst 1 = .ok (.getfield 19, 3) := by decide +kernel
theorem dX5_worst_4 : decode cX5_worst 4 = .ok (.aload_n 0, 1) := by decide +kernel
theorem dX5_worst_5 : decode cX5_worst 5 = .ok (.getfield 12, 3) := by decide +kernel
theorem dX5_worst_8 : decode cX5_worst 8 = .ok (.invokevirtual 141, 3) := by decide +kernel
theorem dX5_worst_11 : decode cX5_worst 11 = .ok (.ireturn, 1) := by decide +kernel
theorem dX5_isKnocked_0 : decode cX5_isKnocked 0 = .ok (.aload_n 0, 1) := by decide +kernel
theorem dX5_isKnocked_1 : decode cX5_isKnocked 1 = .ok (.getfield 19, 3) := by decide +kernel
theorem dX5_isKnocked_4 : decode cX5_isKnocked 4 = .ok (.getfield 145, 3) := by decide +kernel
theorem dX5_isKnocked_7 : decode cX5_isKnocked 7 = .ok (.ireturn, 1) := by decide +kernel
theorem dX5_missed_0 : decode cX5_missed 0 = .ok (.aload_n 0, 1) := by decide +kernel
theorem dX5_missed_1 : decode cX5_missed 1 = .ok (.getfield 19, 3) := by decide +kernel
theorem dX5_missed_4 : decode cX5_missed 4 = .ok (.getfield 148, 3) := by decide +kernel
theorem dX5_missed_7 : decode cX5_missed 7 = .ok (.ireturn, 1) := by decide +kernel
theorem dX5_paid_0 : decode cX5_paid 0 = .ok (.aload_n 0, 1) := by decide +kernel
theorem dX5_paid_1 : decode cX5_paid 1 = .ok (.getfield 19, 3) := by decide +kernel
theorem dX5_paid_4 : decode cX5_paid 4 = .ok (.getfield 151, 3) := by decide +kernel
theorem dX5_paid_7 : decode cX5_paid 7 = .ok (.ireturn, 1) := by decide +kernel
theorem dX5_isOver_0 : decode cX5_isOver 0 = .ok (.aload_n 0, 1) := by decide +kernel
theorem dX5_isOver_1 : decode cX5_isOver 1 = .ok (.getfield 19, 3) := by decide +kernel
theorem dX5_isOver_4 : decode cX5_isOver 4 = .ok (.getfield 111, 3) := by decide +kernel
theorem dX5_isOver_7 : decode cX5_isOver 7 = .ok (.ireturn, 1) := by decide +kernel
set_option maxRecDepth 20000 in
theorem ggX5_worth_X4_grow : GoodIn wsX5_worth wsX4_grow := goodIn_r _ [9, 10, 11, 12, 13, 14, 15, 16, 17, 18, 19, 20, 21, 8, 22, 23, 24, 25, 26, 27, 28, 29, 30, 31, 32, 33, 34, 35, 36, 37, 38, 39, 40, 41, 42, 43, 44, 45, 46, 47, 48, 49, 50, 51, 52, 53, 54, 55, 56, 57, 58, 59, 60, 61, 62, 63, 64, 65, 66, 67, 68, 69, 70, 71, 72, 73, 74, 75, 76, 77, 78, 79, 80, 81, 82, 83, 84, 85, 86, 87, 88, 89, 90, 91, 92, 93, 94, 95, 96, 97, 98, 99, 100, 101, 102, 103, 104, 105, 106, 107, 108, 109, 110, 111, 112, 113, 114, 115, 116, 117, 118, 119, 120, 121, 122, 123, 124, 125, 126, 127, 128, 129, 130, 131, 132, 133, 134, 135, 136, 137, 138, 139, 140, 141, 142, 143, 144, 145, 160, 161, 162, 163, 164, 165, 166, 167, 151, 152, 153, 154, 155, 156, 157, 158, 159, 168, 169, 170, 171, 172, 173, 174, 175, 176, 177, 178, 179, 180, 181, 182, 183, 184, 185, 186, 187, 188, 189] (by decide +kernel) (by decide +kernel)
set_option maxRecDepth 20000 in
theorem gX5_worth_X4_grow : GoodIn wsX5_worth (wsV RX5 154 RX4 yX4_grow wsX4_grow) := goodIn_app (goodIn_of _ (by decide +kernel)) ggX5_worth_X4_grow
theorem dX5_worth_0 : decode cX5_worth 0 = .ok (.aload_n 0, 1) := by decide +kernel
theorem dX5_worth_1 : decode cX5_worth 1 = .ok (.getfield 29, 3) := by decide +kernel
theorem dX5_worth_4 : decode cX5_worth 4 = .ok (.aload_n 0, 1) := by decide +kernel
theorem dX5_worth_5 : decode cX5_worth 5 = .ok (.getfield 12, 3) := by decide +kernel
theorem dX5_worth_8 : decode cX5_worth 8 = .ok (.aload_n 0, 1) := by decide +kernel
theorem dX5_worth_9 : decode cX5_worth 9 = .ok (.getfield 19, 3) := by decide +kernel
theorem dX5_worth_12 : decode cX5_worth 12 = .ok (.invokevirtual 154, 3) := by decide +kernel
theorem dX5_worth_15 : decode cX5_worth 15 = .ok (.aload_n 0, 1) := by decide +kernel
theorem dX5_worth_16 : decode cX5_worth 16 = .ok (.getfield 29, 3) := by decide +kernel
theorem dX5_worth_19 : decode cX5_worth 19 = .ok (.getfield 158, 3) := by decide +kernel
theorem dX5_worth_22 : decode cX5_worth 22 = .ok (.lreturn, 1) := by decide +kernel
set_option maxRecDepth 20000 in
theorem ggX5_worthByPaths_X5_worthOfRow : GoodIn wsX5_worthByPaths wsX5_worthOfRow := goodIn_r _ [10, 11, 1, 2, 12, 3, 13, 14, 15, 16, 17, 18, 19, 20, 21, 22, 23, 24, 25, 26, 27, 28, 9, 29, 30, 31, 32, 33, 34, 35, 36, 37, 38, 39, 40, 41, 42, 43, 44, 45, 46, 47, 48, 49, 50, 51, 52, 53, 54, 55, 56, 57, 58, 59, 60, 61, 62, 63, 64, 65, 66, 67, 68, 69, 70, 71, 72, 73, 74, 75, 76, 77, 78, 79, 80, 81, 82, 83, 84, 85, 86, 87, 88, 89, 90, 91, 92, 93, 94, 95, 96, 97, 98, 99, 100, 101, 102, 103, 104, 105, 106, 107] (by decide +kernel) (by decide +kernel)
set_option maxRecDepth 20000 in
theorem gX5_worthByPaths_X5_worthOfRow : GoodIn wsX5_worthByPaths (wsV RX5 162 RX5 yX5_worthOfRow wsX5_worthOfRow) := goodIn_app (goodIn_of _ (by decide +kernel)) ggX5_worthByPaths_X5_worthOfRow
theorem dX5_worthByPaths_0 : decode cX5_worthByPaths 0 = .ok (.aload_n 0, 1) := by decide +kernel
theorem dX5_worthByPaths_1 : decode cX5_worthByPaths 1 = .ok (.getfield 19, 3) := by decide +kernel
theorem dX5_worthByPaths_4 : decode cX5_worthByPaths 4 = .ok (.getfield 111, 3) := by decide +kernel
theorem dX5_worthByPaths_7 : decode cX5_worthByPaths 7 = .ok (.ifCond .eq 5, 3) := by decide +kernel
theorem dX5_worthByPaths_10 : decode cX5_worthByPaths 10 = .ok (.lconst 0, 1) := by decide +kernel
theorem dX5_worthByPaths_11 : decode cX5_worthByPaths 11 = .ok (.lreturn, 1) := by decide +kernel
theorem dX5_worthByPaths_12 : decode cX5_worthByPaths 12 = .ok (.aload_n 0, 1) := by decide +kernel
theorem dX5_worthByPaths_13 : decode cX5_worthByPaths 13 = .ok (.getfield 12, 3) := by decide +kernel
theorem dX5_worthByPaths_16 : decode cX5_worthByPaths 16 = .ok (.getfield 90, 3) := by decide +kernel
theorem dX5_worthByPaths_19 : decode cX5_worthByPaths 19 = .ok (.aload_n 0, 1) := by decide +kernel
theorem dX5_worthByPaths_20 : decode cX5_worthByPaths 20 = .ok (.getfield 19, 3) := by decide +kernel
theorem dX5_worthByPaths_23 : decode cX5_worthByPaths 23 = .ok (.getfield 119, 3) := by decide +kernel
theorem dX5_worthByPaths_26 : decode cX5_worthByPaths 26 = .ok (.isub, 1) := by decide +kernel
theorem dX5_worthByPaths_27 : decode cX5_worthByPaths 27 = .ok (.istore_n 1, 1) := by decide +kernel
theorem dX5_worthByPaths_28 : decode cX5_worthByPaths 28 = .ok (.lconst 0, 1) := by decide +kernel
theorem dX5_worthByPaths_29 : decode cX5_worthByPaths 29 = .ok (.lstore_n 2, 1) := by decide +kernel
theorem dX5_worthByPaths_30 : decode cX5_worthByPaths 30 = .ok (.iconst 0, 1) := by decide +kernel
theorem dX5_worthByPaths_31 : decode cX5_worthByPaths 31 = .ok (.istore 4, 2) := by decide +kernel
theorem dX5_worthByPaths_33 : decode cX5_worthByPaths 33 = .ok (.iload 4, 2) := by decide +kernel
theorem dX5_worthByPaths_35 : decode cX5_worthByPaths 35 = .ok (.sipush 256, 3) := by decide +kernel
theorem dX5_worthByPaths_38 : decode cX5_worthByPaths 38 = .ok (.if_icmp .ge 27, 3) := by decide +kernel
theorem dX5_worthByPaths_41 : decode cX5_worthByPaths 41 = .ok (.iload 4, 2) := by decide +kernel
theorem dX5_worthByPaths_43 : decode cX5_worthByPaths 43 = .ok (.iconst 1, 1) := by decide +kernel
theorem dX5_worthByPaths_44 : decode cX5_worthByPaths 44 = .ok (.iload_n 1, 1) := by decide +kernel
theorem dX5_worthByPaths_45 : decode cX5_worthByPaths 45 = .ok (.ishl, 1) := by decide +kernel
theorem dX5_worthByPaths_46 : decode cX5_worthByPaths 46 = .ok (.if_icmp .ge 19, 3) := by decide +kernel
theorem dX5_worthByPaths_49 : decode cX5_worthByPaths 49 = .ok (.lload_n 2, 1) := by decide +kernel
theorem dX5_worthByPaths_50 : decode cX5_worthByPaths 50 = .ok (.aload_n 0, 1) := by decide +kernel
theorem dX5_worthByPaths_51 : decode cX5_worthByPaths 51 = .ok (.iload 4, 2) := by decide +kernel
theorem dX5_worthByPaths_53 : decode cX5_worthByPaths 53 = .ok (.iload_n 1, 1) := by decide +kernel
theorem dX5_worthByPaths_54 : decode cX5_worthByPaths 54 = .ok (.invokevirtual 162, 3) := by decide +kernel
theorem dX5_worthByPaths_57 : decode cX5_worthByPaths 57 = .ok (.ladd, 1) := by decide +kernel
theorem dX5_worthByPaths_58 : decode cX5_worthByPaths 58 = .ok (.lstore_n 2, 1) := by decide +kernel
theorem dX5_worthByPaths_59 : decode cX5_worthByPaths 59 = .ok (.iinc 4 1, 3) := by decide +kernel
theorem dX5_worthByPaths_62 : decode cX5_worthByPaths 62 = .ok (.goto (-29), 3) := by decide +kernel
theorem dX5_worthByPaths_65 : decode cX5_worthByPaths 65 = .ok (.lload_n 2, 1) := by decide +kernel
theorem dX5_worthByPaths_66 : decode cX5_worthByPaths 66 = .ok (.lreturn, 1) := by decide +kernel
set_option maxRecDepth 20000 in
theorem ggX5_divisor_X5_wholeWeightOf : GoodIn wsX5_divisor wsX5_wholeWeightOf := goodIn_r _ [9, 10] (by decide +kernel) (by decide +kernel)
set_option maxRecDepth 20000 in
theorem gX5_divisor_X5_wholeWeightOf : GoodIn wsX5_divisor (va_wsS RX5 166 yX5_wholeWeightOf wsX5_wholeWeightOf) := goodIn_app (goodIn_of _ (by decide +kernel)) ggX5_divisor_X5_wholeWeightOf
theorem dX5_divisor_0 : decode cX5_divisor 0 = .ok (.aload_n 0, 1) := by decide +kernel
theorem dX5_divisor_1 : decode cX5_divisor 1 = .ok (.getfield 19, 3) := by decide +kernel
theorem dX5_divisor_4 : decode cX5_divisor 4 = .ok (.getfield 111, 3) := by decide +kernel
theorem dX5_divisor_7 : decode cX5_divisor 7 = .ok (.ifCond .eq 7, 3) := by decide +kernel
theorem dX5_divisor_10 : decode cX5_divisor 10 = .ok (.lconst 1, 1) := by decide +kernel
theorem dX5_divisor_11 : decode cX5_divisor 11 = .ok (.goto 21, 3) := by decide +kernel
theorem dX5_divisor_14 : decode cX5_divisor 14 = .ok (.aload_n 0, 1) := by decide +kernel
theorem dX5_divisor_15 : decode cX5_divisor 15 = .ok (.getfield 12, 3) := by decide +kernel
theorem dX5_divisor_18 : decode cX5_divisor 18 = .ok (.getfield 90, 3) := by decide +kernel
theorem dX5_divisor_21 : decode cX5_divisor 21 = .ok (.aload_n 0, 1) := by decide +kernel
theorem dX5_divisor_22 : decode cX5_divisor 22 = .ok (.getfield 19, 3) := by decide +kernel
theorem dX5_divisor_25 : decode cX5_divisor 25 = .ok (.getfield 119, 3) := by decide +kernel
theorem dX5_divisor_28 : decode cX5_divisor 28 = .ok (.isub, 1) := by decide +kernel
theorem dX5_divisor_29 : decode cX5_divisor 29 = .ok (.invokestatic 166, 3) := by decide +kernel
theorem dX5_divisor_32 : decode cX5_divisor 32 = .ok (.lreturn, 1) := by decide +kernel
set_option maxRecDepth 20000 in
theorem ggX5_states_X4_grow : GoodIn wsX5_states wsX4_grow := goodIn_r _ [9, 10, 11, 12, 13, 14, 15, 16, 17, 18, 19, 20, 21, 8, 22, 23, 24, 25, 26, 27, 28, 29, 30, 31, 32, 33, 34, 35, 36, 37, 38, 39, 40, 41, 42, 43, 44, 45, 46, 47, 48, 49, 50, 51, 52, 53, 54, 55, 56, 57, 58, 59, 60, 61, 62, 63, 64, 65, 66, 67, 68, 69, 70, 71, 72, 73, 74, 75, 76, 77, 78, 79, 80, 81, 82, 83, 84, 85, 86, 87, 88, 89, 90, 91, 92, 93, 94, 95, 96, 97, 98, 99, 100, 101, 102, 103, 104, 105, 106, 107, 108, 109, 110, 111, 112, 113, 114, 115, 116, 117, 118, 119, 120, 121, 122, 123, 124, 125, 126, 127, 128, 129, 130, 131, 132, 133, 134, 135, 136, 137, 138, 139, 140, 141, 142, 143, 144, 145, 160, 161, 162, 163, 164, 165, 166, 167, 151, 152, 153, 154, 155, 156, 157, 158, 159, 168, 169, 170, 171, 172, 173, 174, 175, 176, 177, 178, 179, 180, 181, 182, 183, 184, 185, 186, 187, 188, 189] (by decide +kernel) (by decide +kernel)
set_option maxRecDepth 20000 in
theorem gX5_states_X4_grow : GoodIn wsX5_states (wsV RX5 154 RX4 yX4_grow wsX4_grow) := goodIn_app (goodIn_of _ (by decide +kernel)) ggX5_states_X4_grow
theorem dX5_states_0 : decode cX5_states 0 = .ok (.aload_n 0, 1) := by decide +kernel
theorem dX5_states_1 : decode cX5_states 1 = .ok (.getfield 29, 3) := by decide +kernel
theorem dX5_states_4 : decode cX5_states 4 = .ok (.aload_n 0, 1) := by decide +kernel
theorem dX5_states_5 : decode cX5_states 5 = .ok (.getfield 12, 3) := by decide +kernel
theorem dX5_states_8 : decode cX5_states 8 = .ok (.aload_n 0, 1) := by decide +kernel
theorem dX5_states_9 : decode cX5_states 9 = .ok (.getfield 19, 3) := by decide +kernel
theorem dX5_states_12 : decode cX5_states 12 = .ok (.invokevirtual 154, 3) := by decide +kernel
theorem dX5_states_15 : decode cX5_states 15 = .ok (.aload_n 0, 1) := by decide +kernel
theorem dX5_states_16 : decode cX5_states 16 = .ok (.getfield 29, 3) := by decide +kernel
theorem dX5_states_19 : decode cX5_states 19 = .ok (.getfield 170, 3) := by decide +kernel
theorem dX5_states_22 : decode cX5_states 22 = .ok (.ireturn, 1) := by decide +kernel
set_option maxRecDepth 20000 in
theorem ggX5_least_X4_grow : GoodIn wsX5_least wsX4_grow := goodIn_r _ [9, 10, 11, 12, 13, 14, 15, 16, 17, 18, 19, 20, 21, 8, 22, 23, 24, 25, 26, 27, 28, 29, 30, 31, 32, 33, 34, 35, 36, 37, 38, 39, 40, 41, 42, 43, 44, 45, 46, 47, 48, 49, 50, 51, 52, 53, 54, 55, 56, 57, 58, 59, 60, 61, 62, 63, 64, 65, 66, 67, 68, 69, 70, 71, 72, 73, 74, 75, 76, 77, 78, 79, 80, 81, 82, 83, 84, 85, 86, 87, 88, 89, 90, 91, 92, 93, 94, 95, 96, 97, 98, 99, 100, 101, 102, 103, 104, 105, 106, 107, 108, 109, 110, 111, 112, 113, 114, 115, 116, 117, 118, 119, 120, 121, 122, 123, 124, 125, 126, 127, 128, 129, 130, 131, 132, 133, 134, 135, 136, 137, 138, 139, 140, 141, 142, 143, 144, 145, 160, 161, 162, 163, 164, 165, 166, 167, 151, 152, 153, 154, 155, 156, 157, 158, 159, 168, 169, 170, 171, 172, 173, 174, 175, 176, 177, 178, 179, 180, 181, 182, 183, 184, 185, 186, 187, 188, 189] (by decide +kernel) (by decide +kernel)
set_option maxRecDepth 20000 in
theorem gX5_least_X4_grow : GoodIn wsX5_least (wsV RX5 154 RX4 yX4_grow wsX4_grow) := goodIn_app (goodIn_of _ (by decide +kernel)) ggX5_least_X4_grow
theorem dX5_least_0 : decode cX5_least 0 = .ok (.aload_n 0, 1) := by decide +kernel
theorem dX5_least_1 : decode cX5_least 1 = .ok (.getfield 29, 3) := by decide +kernel
theorem dX5_least_4 : decode cX5_least 4 = .ok (.aload_n 0, 1) := by decide +kernel
theorem dX5_least_5 : decode cX5_least 5 = .ok (.getfield 12, 3) := by decide +kernel
theorem dX5_least_8 : decode cX5_least 8 = .ok (.aload_n 0, 1) := by decide +kernel
theorem dX5_least_9 : decode cX5_least 9 = .ok (.getfield 19, 3) := by decide +kernel
theorem dX5_least_12 : decode cX5_least 12 = .ok (.invokevirtual 154, 3) := by decide +kernel
theorem dX5_least_15 : decode cX5_least 15 = .ok (.aload_n 0, 1) := by decide +kernel
theorem dX5_least_16 : decode cX5_least 16 = .ok (.getfield 29, 3) := by decide +kernel
theorem dX5_least_19 : decode cX5_least 19 = .ok (.getfield 173, 3) := by decide +kernel
theorem dX5_least_22 : decode cX5_least 22 = .ok (.ireturn, 1) := by decide +kernel
set_option maxRecDepth 20000 in
theorem ggX5_most_X4_grow : GoodIn wsX5_most wsX4_grow := goodIn_r _ [9, 10, 11, 12, 13, 14, 15, 16, 17, 18, 19, 20, 21, 8, 22, 23, 24, 25, 26, 27, 28, 29, 30, 31, 32, 33, 34, 35, 36, 37, 38, 39, 40, 41, 42, 43, 44, 45, 46, 47, 48, 49, 50, 51, 52, 53, 54, 55, 56, 57, 58, 59, 60, 61, 62, 63, 64, 65, 66, 67, 68, 69, 70, 71, 72, 73, 74, 75, 76, 77, 78, 79, 80, 81, 82, 83, 84, 85, 86, 87, 88, 89, 90, 91, 92, 93, 94, 95, 96, 97, 98, 99, 100, 101, 102, 103, 104, 105, 106, 107, 108, 109, 110, 111, 112, 113, 114, 115, 116, 117, 118, 119, 120, 121, 122, 123, 124, 125, 126, 127, 128, 129, 130, 131, 132, 133, 134, 135, 136, 137, 138, 139, 140, 141, 142, 143, 144, 145, 160, 161, 162, 163, 164, 165, 166, 167, 151, 152, 153, 154, 155, 156, 157, 158, 159, 168, 169, 170, 171, 172, 173, 174, 175, 176, 177, 178, 179, 180, 181, 182, 183, 184, 185, 186, 187, 188, 189] (by decide +kernel) (by decide +kernel)
set_option maxRecDepth 20000 in
theorem gX5_most_X4_grow : GoodIn wsX5_most (wsV RX5 154 RX4 yX4_grow wsX4_grow) := goodIn_app (goodIn_of _ (by decide +kernel)) ggX5_most_X4_grow
theorem dX5_most_0 : decode cX5_most 0 = .ok (.aload_n 0, 1) := by decide +kernel
theorem dX5_most_1 : decode cX5_most 1 = .ok (.getfield 29, 3) := by decide +kernel
theorem dX5_most_4 : decode cX5_most 4 = .ok (.aload_n 0, 1) := by decide +kernel
theorem dX5_most_5 : decode cX5_most 5 = .ok (.getfield 12, 3) := by decide +kernel
theorem dX5_most_8 : decode cX5_most 8 = .ok (.aload_n 0, 1) := by decide +kernel
theorem dX5_most_9 : decode cX5_most 9 = .ok (.getfield 19, 3) := by decide +kernel
theorem dX5_most_12 : decode cX5_most 12 = .ok (.invokevirtual 154, 3) := by decide +kernel
theorem dX5_most_15 : decode cX5_most 15 = .ok (.aload_n 0, 1) := by decide +kernel
theorem dX5_most_16 : decode cX5_most 16 = .ok (.getfield 29, 3) := by decide +kernel
theorem dX5_most_19 : decode cX5_most 19 = .ok (.getfield 176, 3) := by decide +kernel
theorem dX5_most_22 : decode cX5_most 22 = .ok (.ireturn, 1) := by decide +kernel
set_option maxRecDepth 20000 in
theorem ggX5_endsIn_X5_isWithin : GoodIn wsX5_endsIn wsX5_isWithin := goodIn_r _ [10] (by decide +kernel) (by decide +kernel)
set_option maxRecDepth 20000 in
theorem gX5_endsIn_X5_isWithin : GoodIn wsX5_endsIn (va_wsS RX5 48 yX5_isWithin wsX5_isWithin) := goodIn_app (goodIn_of _ (by decide +kernel)) ggX5_endsIn_X5_isWithin
set_option maxRecDepth 20000 in
theorem ggX5_endsIn_X4_grow : GoodIn wsX5_endsIn wsX4_grow := goodIn_r _ [15, 16, 17, 18, 19, 20, 21, 22, 23, 24, 25, 26, 27, 14, 28, 29, 30, 31, 32, 33, 34, 35, 36, 37, 38, 39, 40, 41, 42, 43, 44, 45, 46, 47, 48, 49, 50, 51, 52, 53, 54, 55, 56, 57, 58, 59, 60, 61, 62, 63, 64, 65, 66, 67, 68, 69, 70, 71, 72, 73, 74, 75, 76, 77, 78, 79, 80, 81, 82, 83, 84, 85, 86, 87, 88, 89, 90, 91, 92, 93, 94, 95, 96, 97, 98, 99, 100, 101, 102, 103, 104, 105, 106, 107, 108, 109, 110, 111, 112, 113, 114, 115, 116, 117, 118, 119, 120, 121, 122, 123, 124, 125, 126, 127, 128, 129, 130, 131, 132, 133, 134, 135, 136, 137, 138, 139, 140, 141, 142, 9, 143, 144, 145, 146, 147, 148, 149, 150, 171, 172, 173, 174, 175, 176, 177, 178, 179, 180, 181, 182, 183, 184, 185, 186, 187, 188, 189, 190, 191, 192, 193, 194, 195, 160, 161, 162, 163, 164, 165, 166, 167, 168, 169, 170, 196, 197, 198] (by decide +kernel) (by decide +kernel)
set_option maxRecDepth 20000 in
theorem gX5_endsIn_X4_grow : GoodIn wsX5_endsIn (wsV RX5 154 RX4 yX4_grow wsX4_grow) := goodIn_app (goodIn_of _ (by decide +kernel)) ggX5_endsIn_X4_grow
set_option maxRecDepth 20000 in
theorem ggX5_endsIn_X4_endSumOf : GoodIn wsX5_endsIn wsX4_endSumOf := goodIn_r _ [154, 29, 179, 180, 181, 182, 183, 184, 185, 186, 187] (by decide +kernel) (by decide +kernel)
set_option maxRecDepth 20000 in
theorem gX5_endsIn_X4_endSumOf : GoodIn wsX5_endsIn (wsV RX5 181 RX4 yX4_endSumOf wsX4_endSumOf) := goodIn_app (goodIn_of _ (by decide +kernel)) ggX5_endsIn_X4_endSumOf
theorem dX5_endsIn_0 : decode cX5_endsIn 0 = .ok (.iload_n 1, 1) := by decide +kernel
theorem dX5_endsIn_1 : decode cX5_endsIn 1 = .ok (.iconst 1, 1) := by decide +kernel
theorem dX5_endsIn_2 : decode cX5_endsIn 2 = .ok (.aload_n 0, 1) := by decide +kernel
theorem dX5_endsIn_3 : decode cX5_endsIn 3 = .ok (.getfield 12, 3) := by decide +kernel
theorem dX5_endsIn_6 : decode cX5_endsIn 6 = .ok (.getfield 90, 3) := by decide +kernel
theorem dX5_endsIn_9 : decode cX5_endsIn 9 = .ok (.invokestatic 48, 3) := by decide +kernel
theorem dX5_endsIn_12 : decode cX5_endsIn 12 = .ok (.ifCond .ne 13, 3) := by decide +kernel
theorem dX5_endsIn_15 : decode cX5_endsIn 15 = .ok (.new 52, 3) := by decide +kernel
theorem dX5_endsIn_18 : decode cX5_endsIn 18 = .ok (.dup, 1) := by decide +kernel
theorem dX5_endsIn_19 : decode cX5_endsIn 19 = .ok (.ldc 179, 2) := by decide +kernel
theorem dX5_endsIn_21 : decode cX5_endsIn 21 = .ok (.invokespecial 56, 3) := by decide +kernel
theorem dX5_endsIn_24 : decode cX5_endsIn 24 = .ok (.athrow, 1) := by decide +kernel
theorem dX5_endsIn_25 : decode cX5_endsIn 25 = .ok (.aload_n 0, 1) := by decide +kernel
theorem dX5_endsIn_26 : decode cX5_endsIn 26 = .ok (.getfield 29, 3) := by decide +kernel
theorem dX5_endsIn_29 : decode cX5_endsIn 29 = .ok (.aload_n 0, 1) := by decide +kernel
theorem dX5_endsIn_30 : decode cX5_endsIn 30 = .ok (.getfield 12, 3) := by decide +kernel
theorem dX5_endsIn_33 : decode cX5_endsIn 33 = .ok (.aload_n 0, 1) := by decide +kernel
theorem dX5_endsIn_34 : decode cX5_endsIn 34 = .ok (.getfield 19, 3) := by decide +kernel
theorem dX5_endsIn_37 : decode cX5_endsIn 37 = .ok (.invokevirtual 154, 3) := by decide +kernel
theorem dX5_endsIn_40 : decode cX5_endsIn 40 = .ok (.aload_n 0, 1) := by decide +kernel
theorem dX5_endsIn_41 : decode cX5_endsIn 41 = .ok (.getfield 29, 3) := by decide +kernel
theorem dX5_endsIn_44 : decode cX5_endsIn 44 = .ok (.iload_n 1, 1) := by decide +kernel
theorem dX5_endsIn_45 : decode cX5_endsIn 45 = .ok (.invokevirtual 181, 3) := by decide +kernel
theorem dX5_endsIn_48 : decode cX5_endsIn 48 = .ok (.lreturn, 1) := by decide +kernel
set_option maxRecDepth 20000 in
theorem ggX5_knocks_X4_grow : GoodIn wsX5_knocks wsX4_grow := goodIn_r _ [9, 10, 11, 12, 13, 14, 15, 16, 17, 18, 19, 20, 21, 8, 22, 23, 24, 25, 26, 27, 28, 29, 30, 31, 32, 33, 34, 35, 36, 37, 38, 39, 40, 41, 42, 43, 44, 45, 46, 47, 48, 49, 50, 51, 52, 53, 54, 55, 56, 57, 58, 59, 60, 61, 62, 63, 64, 65, 66, 67, 68, 69, 70, 71, 72, 73, 74, 75, 76, 77, 78, 79, 80, 81, 82, 83, 84, 85, 86, 87, 88, 89, 90, 91, 92, 93, 94, 95, 96, 97, 98, 99, 100, 101, 102, 103, 104, 105, 106, 107, 108, 109, 110, 111, 112, 113, 114, 115, 116, 117, 118, 119, 120, 121, 122, 123, 124, 125, 126, 127, 128, 129, 130, 131, 132, 133, 134, 135, 136, 137, 138, 139, 140, 141, 142, 143, 144, 145, 160, 161, 162, 163, 164, 165, 166, 167, 151, 152, 153, 154, 155, 156, 157, 158, 159, 168, 169, 170, 171, 172, 173, 174, 175, 176, 177, 178, 179, 180, 181, 182, 183, 184, 185, 186, 187, 188, 189] (by decide +kernel) (by decide +kernel)
set_option maxRecDepth 20000 in
theorem gX5_knocks_X4_grow : GoodIn wsX5_knocks (wsV RX5 154 RX4 yX4_grow wsX4_grow) := goodIn_app (goodIn_of _ (by decide +kernel)) ggX5_knocks_X4_grow
theorem dX5_knocks_0 : decode cX5_knocks 0 = .ok (.aload_n 0, 1) := by decide +kernel
theorem dX5_knocks_1 : decode cX5_knocks 1 = .ok (.getfield 29, 3) := by decide +kernel
theorem dX5_knocks_4 : decode cX5_knocks 4 = .ok (.aload_n 0, 1) := by decide +kernel
theorem dX5_knocks_5 : decode cX5_knocks 5 = .ok (.getfield 12, 3) := by decide +kernel
theorem dX5_knocks_8 : decode cX5_knocks 8 = .ok (.aload_n 0, 1) := by decide +kernel
theorem dX5_knocks_9 : decode cX5_knocks 9 = .ok (.getfield 19, 3) := by decide +kernel
theorem dX5_knocks_12 : decode cX5_knocks 12 = .ok (.invokevirtual 154, 3) := by decide +kernel
theorem dX5_knocks_15 : decode cX5_knocks 15 = .ok (.aload_n 0, 1) := by decide +kernel
theorem dX5_knocks_16 : decode cX5_knocks 16 = .ok (.getfield 29, 3) := by decide +kernel
theorem dX5_knocks_19 : decode cX5_knocks 19 = .ok (.getfield 184, 3) := by decide +kernel
theorem dX5_knocks_22 : decode cX5_knocks 22 = .ok (.lreturn, 1) := by decide +kernel
set_option maxRecDepth 20000 in
theorem ggX5_worthOfRow_X3_copy : GoodIn wsX5_worthOfRow wsX3_copy := goodIn_r _ [11, 12, 13, 14, 15, 16, 17, 18, 19, 80, 81, 82, 83, 84, 85, 86, 87] (by decide +kernel) (by decide +kernel)
set_option maxRecDepth 20000 in
theorem gX5_worthOfRow_X3_copy : GoodIn wsX5_worthOfRow (wsV RX5 187 RX3 yX3_copy wsX3_copy) := goodIn_app (goodIn_of _ (by decide +kernel)) ggX5_worthOfRow_X3_copy
set_option maxRecDepth 20000 in
theorem ggX5_worthOfRow_X5_isUpAt : GoodIn wsX5_worthOfRow wsX5_isUpAt := goodIn_r _ [23] (by decide +kernel) (by decide +kernel)
set_option maxRecDepth 20000 in
theorem gX5_worthOfRow_X5_isUpAt : GoodIn wsX5_worthOfRow (va_wsS RX5 131 yX5_isUpAt wsX5_isUpAt) := goodIn_app (goodIn_of _ (by decide +kernel)) ggX5_worthOfRow_X5_isUpAt
set_option maxRecDepth 20000 in
theorem ggX5_worthOfRow_X2_weightOf : GoodIn wsX5_worthOfRow wsX2_weightOf := goodIn_r _ [28, 29, 88, 89, 90, 91, 92, 93, 94, 95, 96, 97, 98] (by decide +kernel) (by decide +kernel)
