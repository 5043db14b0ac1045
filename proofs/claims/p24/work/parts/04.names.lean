set_option maxRecDepth 20000 in
theorem ggL_isRefused_L_all : GoodIn wsL_isRefused wsL_all := goodIn_ca (goodIn_r _ [7, 8, 9, 10, 11, 12, 13, 14, 15, 16, 17, 18, 19, 20, 21, 22, 23, 24, 25, 26, 27, 28, 29, 30, 31, 32, 33, 34, 35, 36, 37, 38, 39, 40, 41, 42, 43, 44, 45, 46, 47, 48, 49, 50, 51, 52, 53, 54, 55, 56, 57, 58, 59, 60, 61, 62, 63, 64, 65, 66, 67, 68, 69, 70, 71, 72, 73, 74, 75, 76, 77, 78, 79, 80, 81, 82, 83, 84, 85, 86, 87, 88, 89, 90, 91, 92, 93, 94, 95, 96, 97, 98, 99, 100, 101, 102, 103, 104, 105, 106, 107, 108, 109, 110, 111, 112, 113, 114, 115, 116, 117, 118, 119, 120, 121, 122, 123, 124, 125, 126, 127, 128, 129, 130, 131, 132, 133, 134, 135, 136, 137, 138, 139, 140, 141, 142, 143, 144, 145, 146, 147, 148, 149, 150, 151, 152, 153, 154, 155, 156, 157, 158, 159, 160, 161, 162, 163, 164, 165, 166, 167, 168, 169, 170, 171, 172, 173, 174, 175, 176, 177, 178, 179, 180, 181, 182, 183, 184, 185, 186, 187, 188, 189, 190, 191, 192, 193, 194, 195, 196, 197, 198, 199, 200, 201, 202, 203, 204, 205, 279, 280, 281, 282, 283, 284, 285, 286, 287, 288, 289, 290, 291, 292, 293, 294, 295, 296, 297, 298, 299, 300, 301, 302, 303, 304, 305, 306, 307, 308, 309, 310, 311, 312, 313, 314, 315, 316, 317, 318, 319, 320, 321, 322] rfl (by decide +kernel)) (goodIn_sub (fun _ h => List.mem_cons_of_mem _ (List.mem_append_left _ (List.mem_append_left _ (List.mem_append_right _ h)))) (by decide +kernel))
set_option maxRecDepth 20000 in
theorem gL_isRefused_L_all : GoodIn wsL_isRefused (va_wsS RL 122 yL_all wsL_all) := goodIn_app (goodIn_of _ (by decide +kernel)) ggL_isRefused_L_all
set_option maxRecDepth 20000 in
theorem ggL_isRefused_L_setAsset : GoodIn wsL_isRefused wsL_setAsset := goodIn_ca (goodIn_ca (goodIn_r _ [208, 209, 210, 211, 212, 213, 19, 214, 27, 28, 215, 216, 59, 217, 218, 219, 220, 221, 21, 31, 32, 33, 222, 223, 224, 225, 226, 227, 140, 228, 142, 143, 229, 144, 145, 146, 179, 151, 154, 152, 155, 279, 280, 281, 282, 283, 309, 310, 311, 312, 313, 314, 315, 316, 317, 318, 319, 320, 321, 322, 284, 285, 286, 287, 288, 289, 290, 291] rfl (by decide +kernel)) (goodIn_sub (fun _ h => List.mem_cons_of_mem _ (List.mem_append_left _ (List.mem_append_left _ (List.mem_append_right _ h)))) (by decide +kernel))) (goodIn_sub (fun _ h => List.mem_cons_of_mem _ (List.mem_append_left _ (List.mem_append_right _ h))) (by decide +kernel))
set_option maxRecDepth 20000 in
theorem gL_isRefused_L_setAsset : GoodIn wsL_isRefused (va_wsS RL 126 yL_setAsset wsL_setAsset) := goodIn_app (goodIn_of _ (by decide +kernel)) ggL_isRefused_L_setAsset
set_option maxRecDepth 20000 in
theorem ggL_isRefused_L_setMoves : GoodIn wsL_isRefused wsL_setMoves := goodIn_ca (goodIn_r _ [232, 210, 233, 234, 235, 19, 236, 215, 216, 59, 237, 238, 21, 222, 223, 224, 225, 226, 227, 140, 228, 142, 143, 229, 144, 145, 146, 179, 151, 154, 152, 155, 279, 280, 281, 282, 283, 309, 310, 311, 312, 313, 314, 315, 316, 317, 318, 319, 284, 285, 286, 287, 288, 289, 290, 291, 320, 321, 322] rfl (by decide +kernel)) (goodIn_sub (fun _ h => List.mem_cons_of_mem _ (List.mem_append_left _ (List.mem_append_right _ h))) (by decide +kernel))
set_option maxRecDepth 20000 in
theorem gL_isRefused_L_setMoves : GoodIn wsL_isRefused (va_wsS RL 129 yL_setMoves wsL_setMoves) := goodIn_app (goodIn_of _ (by decide +kernel)) ggL_isRefused_L_setMoves
set_option maxRecDepth 20000 in
theorem ggL_isRefused_L_setNote : GoodIn wsL_isRefused wsL_setNote := goodIn_ca (goodIn_r _ [241, 210, 242, 243, 244, 19, 245, 215, 216, 59, 246, 247, 248, 249, 250, 21, 222, 223, 224, 225, 226, 227, 140, 228, 142, 143, 229, 144, 145, 146, 179, 151, 154, 152, 155, 279, 280, 281, 282, 283, 309, 310, 311, 312, 313, 314, 315, 316, 317, 318, 319, 284, 285, 286, 287, 288, 289, 290, 291, 320, 321, 322] rfl (by decide +kernel)) (goodIn_sub (fun _ h => List.mem_cons_of_mem _ (List.mem_append_left _ (List.mem_append_right _ h))) (by decide +kernel))
set_option maxRecDepth 20000 in
theorem gL_isRefused_L_setNote : GoodIn wsL_isRefused (va_wsS RL 132 yL_setNote wsL_setNote) := goodIn_app (goodIn_of _ (by decide +kernel)) ggL_isRefused_L_setNote
set_option maxRecDepth 20000 in
theorem ggL_isRefused_L_act : GoodIn wsL_isRefused wsL_act := goodIn_ca (goodIn_ca (goodIn_ca (goodIn_r _ [253, 209, 210, 254, 1, 2, 3, 255, 256, 257, 19, 258, 259, 260, 21, 43, 22, 261, 59, 262, 263, 138, 139, 140, 141, 142, 143, 144, 145, 146, 147, 148, 149, 150, 151, 152, 153, 154, 155, 156, 157, 158, 159, 160, 161, 162, 163, 95, 91, 96, 164, 165, 166, 167, 168, 90, 92, 169, 170, 171, 172, 173, 174, 175, 176, 177, 178, 179, 180, 181, 182, 183, 184, 185, 264, 265, 266, 267, 225, 226, 227, 228, 229, 268, 269, 270, 23, 24, 25, 26, 27, 28, 29, 30, 31, 32, 33, 271, 272, 273, 274, 215, 216, 246, 58, 222, 223, 224, 61, 62, 63, 64, 65, 66, 67, 68, 69, 70, 71, 72, 73, 74, 75, 76, 77, 78, 79, 80, 81, 82, 83, 84, 85, 86, 87, 88, 89, 93, 94, 97, 98, 99, 100, 101, 102, 103, 104, 105, 106, 107, 108, 109, 110, 111, 112, 113, 114, 115, 116, 117, 118, 119, 120, 121, 122, 123, 124, 125, 126, 127, 128, 129, 130, 131, 132, 133, 134, 135, 136, 137, 186, 187, 188, 189, 190, 191, 192, 193, 194, 195, 196, 197, 198, 199, 200, 275, 276, 277, 278, 279, 280, 281, 282, 283, 284, 285, 286, 287, 288, 289, 290, 291, 309, 310, 311, 312, 313, 314, 315, 316, 317, 318, 319, 320, 321, 322, 292, 293, 294, 295, 296, 297, 298, 299, 300, 301, 302, 303, 304, 305, 306, 307, 308] rfl (by decide +kernel)) (goodIn_sub (fun _ h => List.mem_cons_of_mem _ (List.mem_append_right _ h)) (by decide +kernel))) (goodIn_sub (fun _ h => List.mem_cons_of_mem _ (List.mem_append_left _ (List.mem_append_left _ (List.mem_append_right _ h)))) (by decide +kernel))) (goodIn_sub (fun _ h => List.mem_cons_of_mem _ (List.mem_append_left _ (List.mem_append_right _ h))) (by decide +kernel))
set_option maxRecDepth 20000 in
theorem gL_isRefused_L_act : GoodIn wsL_isRefused (va_wsS RL 118 yL_act wsL_act) := goodIn_app (goodIn_of _ (by decide +kernel)) ggL_isRefused_L_act
set_option maxRecDepth 20000 in
theorem ggL_isRefused_X5_isOver : GoodIn wsL_isRefused wsX5_isOver := goodIn_r _ [42, 21, 43, 279, 280, 281, 282, 283, 284, 285, 286, 287, 288, 289, 290, 291] rfl (by decide +kernel)
set_option maxRecDepth 20000 in
theorem gL_isRefused_X5_isOver : GoodIn wsL_isRefused (wsV RL 63 RX5 yX5_isOver wsX5_isOver) := goodIn_app (goodIn_of _ (by decide +kernel)) ggL_isRefused_X5_isOver
set_option maxRecDepth 20000 in
theorem ggL_isRefused_X5_told : GoodIn wsL_isRefused wsX5_told := goodIn_r _ [20, 21, 22, 279, 280, 281, 282, 283, 284, 285, 286, 287, 288, 289, 290, 291] rfl (by decide +kernel)
set_option maxRecDepth 20000 in
theorem gL_isRefused_X5_told : GoodIn wsL_isRefused (wsV RL 51 RX5 yX5_told wsX5_told) := goodIn_app (goodIn_of _ (by decide +kernel)) ggL_isRefused_X5_told
theorem dL_isRefused_0 : decode cL_isRefused 0 = .ok (.iload_n 2, 1) := by decide +kernel
theorem dL_isRefused_1 : decode cL_isRefused 1 = .ok (.iconst 2, 1) := by decide +kernel
theorem dL_isRefused_2 : decode cL_isRefused 2 = .ok (.irem, 1) := by decide +kernel
theorem dL_isRefused_3 : decode cL_isRefused 3 = .ok (.ifCond .ne 7, 3) := by decide +kernel
theorem dL_isRefused_6 : decode cL_isRefused 6 = .ok (.iconst 1, 1) := by decide +kernel
theorem dL_isRefused_7 : decode cL_isRefused 7 = .ok (.goto 4, 3) := by decide +kernel
theorem dL_isRefused_10 : decode cL_isRefused 10 = .ok (.iconst 0, 1) := by decide +kernel
theorem dL_isRefused_11 : decode cL_isRefused 11 = .ok (.istore_n 3, 1) := by decide +kernel
theorem dL_isRefused_12 : decode cL_isRefused 12 = .ok (.iload_n 3, 1) := by decide +kernel
theorem dL_isRefused_13 : decode cL_isRefused 13 = .ok (.ifCond .eq 12, 3) := by decide +kernel
theorem dL_isRefused_16 : decode cL_isRefused 16 = .ok (.iconst (-1), 1) := by decide +kernel
theorem dL_isRefused_17 : decode cL_isRefused 17 = .ok (.iload_n 2, 1) := by decide +kernel
theorem dL_isRefused_18 : decode cL_isRefused 18 = .ok (.bipush 30, 2) := by decide +kernel
theorem dL_isRefused_20 : decode cL_isRefused 20 = .ok (.irem, 1) := by decide +kernel
theorem dL_isRefused_21 : decode cL_isRefused 21 = .ok (.isub, 1) := by decide +kernel
theorem dL_isRefused_22 : decode cL_isRefused 22 = .ok (.goto 9, 3) := by decide +kernel
theorem dL_isRefused_25 : decode cL_isRefused 25 = .ok (.iconst 2, 1) := by decide +kernel
theorem dL_isRefused_26 : decode cL_isRefused 26 = .ok (.iload_n 2, 1) := by decide +kernel
theorem dL_isRefused_27 : decode cL_isRefused 27 = .ok (.bipush 30, 2) := by decide +kernel
theorem dL_isRefused_29 : decode cL_isRefused 29 = .ok (.irem, 1) := by decide +kernel
theorem dL_isRefused_30 : decode cL_isRefused 30 = .ok (.iadd, 1) := by decide +kernel
theorem dL_isRefused_31 : decode cL_isRefused 31 = .ok (.istore 4, 2) := by decide +kernel
theorem dL_isRefused_33 : decode cL_isRefused 33 = .ok (.aload_n 0, 1) := by decide +kernel
theorem dL_isRefused_34 : decode cL_isRefused 34 = .ok (.invokestatic 122, 3) := by decide +kernel
theorem dL_isRefused_37 : decode cL_isRefused 37 = .ok (.lstore 5, 2) := by decide +kernel
theorem dL_isRefused_39 : decode cL_isRefused 39 = .ok (.aload_n 0, 1) := by decide +kernel
theorem dL_isRefused_40 : decode cL_isRefused 40 = .ok (.iload 4, 2) := by decide +kernel
theorem dL_isRefused_42 : decode cL_isRefused 42 = .ok (.iconst 5, 1) := by decide +kernel
theorem dL_isRefused_43 : decode cL_isRefused 43 = .ok (.iconst 5, 1) := by decide +kernel
theorem dL_isRefused_44 : decode cL_isRefused 44 = .ok (.iconst 5, 1) := by decide +kernel
theorem dL_isRefused_45 : decode cL_isRefused 45 = .ok (.invokestatic 126, 3) := by decide +kernel
theorem dL_isRefused_48 : decode cL_isRefused 48 = .ok (.sipush (-961), 3) := by decide +kernel
theorem dL_isRefused_51 : decode cL_isRefused 51 = .ok (.if_icmp .ne 352, 3) := by decide +kernel
theorem dL_isRefused_54 : decode cL_isRefused 54 = .ok (.aload_n 0, 1) := by decide +kernel
theorem dL_isRefused_55 : decode cL_isRefused 55 = .ok (.iconst 0, 1) := by decide +kernel
theorem dL_isRefused_56 : decode cL_isRefused 56 = .ok (.iload_n 3, 1) := by decide +kernel
theorem dL_isRefused_57 : decode cL_isRefused 57 = .ok (.ifCond .eq 13, 3) := by decide +kernel
theorem dL_isRefused_60 : decode cL_isRefused 60 = .ok (.bipush 99, 2) := by decide +kernel
theorem dL_isRefused_62 : decode cL_isRefused 62 = .ok (.iload_n 2, 1) := by decide +kernel
theorem dL_isRefused_63 : decode cL_isRefused 63 = .ok (.bipush 30, 2) := by decide +kernel
theorem dL_isRefused_65 : decode cL_isRefused 65 = .ok (.irem, 1) := by decide +kernel
theorem dL_isRefused_66 : decode cL_isRefused 66 = .ok (.isub, 1) := by decide +kernel
theorem dL_isRefused_67 : decode cL_isRefused 67 = .ok (.goto 11, 3) := by decide +kernel
theorem dL_isRefused_70 : decode cL_isRefused 70 = .ok (.sipush 1001, 3) := by decide +kernel
theorem dL_isRefused_73 : decode cL_isRefused 73 = .ok (.iload_n 2, 1) := by decide +kernel
theorem dL_isRefused_74 : decode cL_isRefused 74 = .ok (.bipush 30, 2) := by decide +kernel
theorem dL_isRefused_76 : decode cL_isRefused 76 = .ok (.irem, 1) := by decide +kernel
theorem dL_isRefused_77 : decode cL_isRefused 77 = .ok (.iadd, 1) := by decide +kernel
theorem dL_isRefused_78 : decode cL_isRefused 78 = .ok (.iconst 5, 1) := by decide +kernel
theorem dL_isRefused_79 : decode cL_isRefused 79 = .ok (.iconst 5, 1) := by decide +kernel
theorem dL_isRefused_80 : decode cL_isRefused 80 = .ok (.invokestatic 126, 3) := by decide +kernel
theorem dL_isRefused_83 : decode cL_isRefused 83 = .ok (.sipush (-962), 3) := by decide +kernel
theorem dL_isRefused_86 : decode cL_isRefused 86 = .ok (.if_icmp .ne 317, 3) := by decide +kernel
theorem dL_isRefused_89 : decode cL_isRefused 89 = .ok (.aload_n 0, 1) := by decide +kernel
theorem dL_isRefused_90 : decode cL_isRefused 90 = .ok (.iconst 1, 1) := by decide +kernel
theorem dL_isRefused_91 : decode cL_isRefused 91 = .ok (.sipush 500, 3) := by decide +kernel
theorem dL_isRefused_94 : decode cL_isRefused 94 = .ok (.iload_n 3, 1) := by decide +kernel
theorem dL_isRefused_95 : decode cL_isRefused 95 = .ok (.ifCond .eq 7, 3) := by decide +kernel
theorem dL_isRefused_98 : decode cL_isRefused 98 = .ok (.iconst (-1), 1) := by decide +kernel
theorem dL_isRefused_99 : decode cL_isRefused 99 = .ok (.goto 6, 3) := by decide +kernel
theorem dL_isRefused_102 : decode cL_isRefused 102 = .ok (.sipush 201, 3) := by decide +kernel
theorem dL_isRefused_105 : decode cL_isRefused 105 = .ok (.iconst 5, 1) := by decide +kernel
theorem dL_isRefused_106 : decode cL_isRefused 106 = .ok (.invokestatic 126, 3) := by decide +kernel
theorem dL_isRefused_109 : decode cL_isRefused 109 = .ok (.sipush (-962), 3) := by decide +kernel
theorem dL_isRefused_112 : decode cL_isRefused 112 = .ok (.if_icmp .ne 291, 3) := by decide +kernel
theorem dL_isRefused_115 : decode cL_isRefused 115 = .ok (.aload_n 0, 1) := by decide +kernel
theorem dL_isRefused_116 : decode cL_isRefused 116 = .ok (.iconst 1, 1) := by decide +kernel
theorem dL_isRefused_117 : decode cL_isRefused 117 = .ok (.sipush 500, 3) := by decide +kernel
theorem dL_isRefused_120 : decode cL_isRefused 120 = .ok (.iconst 5, 1) := by decide +kernel
theorem dL_isRefused_121 : decode cL_isRefused 121 = .ok (.iload_n 3, 1) := by decide +kernel
theorem dL_isRefused_122 : decode cL_isRefused 122 = .ok (.ifCond .eq 7, 3) := by decide +kernel
theorem dL_isRefused_125 : decode cL_isRefused 125 = .ok (.iconst (-1), 1) := by decide +kernel
theorem dL_isRefused_126 : decode cL_isRefused 126 = .ok (.goto 6, 3) := by decide +kernel
theorem dL_isRefused_129 : decode cL_isRefused 129 = .ok (.sipush 201, 3) := by decide +kernel
theorem dL_isRefused_132 : decode cL_isRefused 132 = .ok (.invokestatic 126, 3) := by decide +kernel
theorem dL_isRefused_135 : decode cL_isRefused 135 = .ok (.sipush (-962), 3) := by decide +kernel
theorem dL_isRefused_138 : decode cL_isRefused 138 = .ok (.if_icmp .ne 265, 3) := by decide +kernel
theorem dL_isRefused_141 : decode cL_isRefused 141 = .ok (.aload_n 0, 1) := by decide +kernel
theorem dL_isRefused_142 : decode cL_isRefused 142 = .ok (.iload_n 3, 1) := by decide +kernel
theorem dL_isRefused_143 : decode cL_isRefused 143 = .ok (.iload_n 3, 1) := by decide +kernel
theorem dL_isRefused_144 : decode cL_isRefused 144 = .ok (.ifCond .eq 12, 3) := by decide +kernel
theorem dL_isRefused_147 : decode cL_isRefused 147 = .ok (.iconst 0, 1) := by decide +kernel
theorem dL_isRefused_148 : decode cL_isRefused 148 = .ok (.iload_n 2, 1) := by decide +kernel
theorem dL_isRefused_149 : decode cL_isRefused 149 = .ok (.bipush 30, 2) := by decide +kernel
theorem dL_isRefused_151 : decode cL_isRefused 151 = .ok (.irem, 1) := by decide +kernel
theorem dL_isRefused_152 : decode cL_isRefused 152 = .ok (.isub, 1) := by decide +kernel
theorem dL_isRefused_153 : decode cL_isRefused 153 = .ok (.goto 10, 3) := by decide +kernel
theorem dL_isRefused_156 : decode cL_isRefused 156 = .ok (.bipush 10, 2) := by decide +kernel
theorem dL_isRefused_158 : decode cL_isRefused 158 = .ok (.iload_n 2, 1) := by decide +kernel
theorem dL_isRefused_159 : decode cL_isRefused 159 = .ok (.bipush 30, 2) := by decide +kernel
theorem dL_isRefused_161 : decode cL_isRefused 161 = .ok (.irem, 1) := by decide +kernel
theorem dL_isRefused_162 : decode cL_isRefused 162 = .ok (.iadd, 1) := by decide +kernel
theorem dL_isRefused_163 : decode cL_isRefused 163 = .ok (.invokestatic 129, 3) := by decide +kernel
theorem dL_isRefused_166 : decode cL_isRefused 166 = .ok (.sipush (-962), 3) := by decide +kernel
theorem dL_isRefused_169 : decode cL_isRefused 169 = .ok (.if_icmp .ne 234, 3) := by decide +kernel
theorem dL_isRefused_172 : decode cL_isRefused 172 = .ok (.aload_n 0, 1) := by decide +kernel
theorem dL_isRefused_173 : decode cL_isRefused 173 = .ok (.iload_n 3, 1) := by decide +kernel
theorem dL_isRefused_174 : decode cL_isRefused 174 = .ok (.ifCond .eq 7, 3) := by decide +kernel
theorem dL_isRefused_177 : decode cL_isRefused 177 = .ok (.iconst 0, 1) := by decide +kernel
theorem dL_isRefused_178 : decode cL_isRefused 178 = .ok (.goto 5, 3) := by decide +kernel
theorem dL_isRefused_181 : decode cL_isRefused 181 = .ok (.bipush 9, 2) := by decide +kernel
theorem dL_isRefused_183 : decode cL_isRefused 183 = .ok (.iconst 5, 1) := by decide +kernel
theorem dL_isRefused_184 : decode cL_isRefused 184 = .ok (.iconst 5, 1) := by decide +kernel
theorem dL_isRefused_185 : decode cL_isRefused 185 = .ok (.iconst 5, 1) := by decide +kernel
theorem dL_isRefused_186 : decode cL_isRefused 186 = .ok (.iconst 5, 1) := by decide +kernel
theorem dL_isRefused_187 : decode cL_isRefused 187 = .ok (.invokestatic 132, 3) := by decide +kernel
theorem dL_isRefused_190 : decode cL_isRefused 190 = .ok (.sipush (-962), 3) := by decide +kernel
theorem dL_isRefused_193 : decode cL_isRefused 193 = .ok (.if_icmp .ne 210, 3) := by decide +kernel
theorem dL_isRefused_196 : decode cL_isRefused 196 = .ok (.aload_n 0, 1) := by decide +kernel
theorem dL_isRefused_197 : decode cL_isRefused 197 = .ok (.iconst 5, 1) := by decide +kernel
theorem dL_isRefused_198 : decode cL_isRefused 198 = .ok (.iload_n 3, 1) := by decide +kernel
theorem dL_isRefused_199 : decode cL_isRefused 199 = .ok (.ifCond .eq 7, 3) := by decide +kernel
theorem dL_isRefused_202 : decode cL_isRefused 202 = .ok (.iconst (-1), 1) := by decide +kernel
theorem dL_isRefused_203 : decode cL_isRefused 203 = .ok (.goto 5, 3) := by decide +kernel
theorem dL_isRefused_206 : decode cL_isRefused 206 = .ok (.bipush 101, 2) := by decide +kernel
theorem dL_isRefused_208 : decode cL_isRefused 208 = .ok (.iconst 5, 1) := by decide +kernel
theorem dL_isRefused_209 : decode cL_isRefused 209 = .ok (.iconst 5, 1) := by decide +kernel
theorem dL_isRefused_210 : decode cL_isRefused 210 = .ok (.iconst 5, 1) := by decide +kernel
theorem dL_isRefused_211 : decode cL_isRefused 211 = .ok (.invokestatic 132, 3) := by decide +kernel
theorem dL_isRefused_214 : decode cL_isRefused 214 = .ok (.sipush (-962), 3) := by decide +kernel
theorem dL_isRefused_217 : decode cL_isRefused 217 = .ok (.if_icmp .ne 186, 3) := by decide +kernel
theorem dL_isRefused_220 : decode cL_isRefused 220 = .ok (.aload_n 0, 1) := by decide +kernel
theorem dL_isRefused_221 : decode cL_isRefused 221 = .ok (.iconst 5, 1) := by decide +kernel
theorem dL_isRefused_222 : decode cL_isRefused 222 = .ok (.iconst 5, 1) := by decide +kernel
theorem dL_isRefused_223 : decode cL_isRefused 223 = .ok (.iload_n 3, 1) := by decide +kernel
theorem dL_isRefused_224 : decode cL_isRefused 224 = .ok (.ifCond .eq 7, 3) := by decide +kernel
theorem dL_isRefused_227 : decode cL_isRefused 227 = .ok (.iconst (-1), 1) := by decide +kernel
theorem dL_isRefused_228 : decode cL_isRefused 228 = .ok (.goto 6, 3) := by decide +kernel
theorem dL_isRefused_231 : decode cL_isRefused 231 = .ok (.sipush 151, 3) := by decide +kernel
theorem dL_isRefused_234 : decode cL_isRefused 234 = .ok (.iconst 5, 1) := by decide +kernel
theorem dL_isRefused_235 : decode cL_isRefused 235 = .ok (.iconst 5, 1) := by decide +kernel
theorem dL_isRefused_236 : decode cL_isRefused 236 = .ok (.invokestatic 132, 3) := by decide +kernel
theorem dL_isRefused_239 : decode cL_isRefused 239 = .ok (.sipush (-962), 3) := by decide +kernel
theorem dL_isRefused_242 : decode cL_isRefused 242 = .ok (.if_icmp .ne 161, 3) := by decide +kernel
theorem dL_isRefused_245 : decode cL_isRefused 245 = .ok (.aload_n 0, 1) := by decide +kernel
theorem dL_isRefused_246 : decode cL_isRefused 246 = .ok (.iconst 5, 1) := by decide +kernel
theorem dL_isRefused_247 : decode cL_isRefused 247 = .ok (.iconst 5, 1) := by decide +kernel
theorem dL_isRefused_248 : decode cL_isRefused 248 = .ok (.iconst 5, 1) := by decide +kernel
theorem dL_isRefused_249 : decode cL_isRefused 249 = .ok (.iload_n 3, 1) := by decide +kernel
theorem dL_isRefused_250 : decode cL_isRefused 250 = .ok (.ifCond .eq 7, 3) := by decide +kernel
theorem dL_isRefused_253 : decode cL_isRefused 253 = .ok (.iconst (-1), 1) := by decide +kernel
theorem dL_isRefused_254 : decode cL_isRefused 254 = .ok (.goto 6, 3) := by decide +kernel
theorem dL_isRefused_257 : decode cL_isRefused 257 = .ok (.sipush 201, 3) := by decide +kernel
theorem dL_isRefused_260 : decode cL_isRefused 260 = .ok (.iconst 5, 1) := by decide +kernel
theorem dL_isRefused_261 : decode cL_isRefused 261 = .ok (.invokestatic 132, 3) := by decide +kernel
theorem dL_isRefused_264 : decode cL_isRefused 264 = .ok (.sipush (-962), 3) := by decide +kernel
theorem dL_isRefused_267 : decode cL_isRefused 267 = .ok (.if_icmp .ne 136, 3) := by decide +kernel
theorem dL_isRefused_270 : decode cL_isRefused 270 = .ok (.aload_n 0, 1) := by decide +kernel
theorem dL_isRefused_271 : decode cL_isRefused 271 = .ok (.iconst 5, 1) := by decide +kernel
theorem dL_isRefused_272 : decode cL_isRefused 272 = .ok (.iconst 5, 1) := by decide +kernel
theorem dL_isRefused_273 : decode cL_isRefused 273 = .ok (.iconst 5, 1) := by decide +kernel
theorem dL_isRefused_274 : decode cL_isRefused 274 = .ok (.iconst 5, 1) := by decide +kernel
theorem dL_isRefused_275 : decode cL_isRefused 275 = .ok (.iload_n 3, 1) := by decide +kernel
theorem dL_isRefused_276 : decode cL_isRefused 276 = .ok (.ifCond .eq 7, 3) := by decide +kernel
theorem dL_isRefused_279 : decode cL_isRefused 279 = .ok (.iconst (-1), 1) := by decide +kernel
theorem dL_isRefused_280 : decode cL_isRefused 280 = .ok (.goto 6, 3) := by decide +kernel
theorem dL_isRefused_283 : decode cL_isRefused 283 = .ok (.sipush 501, 3) := by decide +kernel
theorem dL_isRefused_286 : decode cL_isRefused 286 = .ok (.invokestatic 132, 3) := by decide +kernel
theorem dL_isRefused_289 : decode cL_isRefused 289 = .ok (.sipush (-962), 3) := by decide +kernel
theorem dL_isRefused_292 : decode cL_isRefused 292 = .ok (.if_icmp .ne 111, 3) := by decide +kernel
theorem dL_isRefused_295 : decode cL_isRefused 295 = .ok (.aload_n 0, 1) := by decide +kernel
theorem dL_isRefused_296 : decode cL_isRefused 296 = .ok (.iconst 2, 1) := by decide +kernel
theorem dL_isRefused_297 : decode cL_isRefused 297 = .ok (.iload 4, 2) := by decide +kernel
theorem dL_isRefused_299 : decode cL_isRefused 299 = .ok (.invokestatic 118, 3) := by decide +kernel
theorem dL_isRefused_302 : decode cL_isRefused 302 = .ok (.ldc2_w 43, 3) := by decide +kernel
theorem dL_isRefused_305 : decode cL_isRefused 305 = .ok (.lcmp, 1) := by decide +kernel
theorem dL_isRefused_306 : decode cL_isRefused 306 = .ok (.ifCond .ne 97, 3) := by decide +kernel
theorem dL_isRefused_309 : decode cL_isRefused 309 = .ok (.aload_n 0, 1) := by decide +kernel
theorem dL_isRefused_310 : decode cL_isRefused 310 = .ok (.iconst 3, 1) := by decide +kernel
theorem dL_isRefused_311 : decode cL_isRefused 311 = .ok (.iload_n 3, 1) := by decide +kernel
theorem dL_isRefused_312 : decode cL_isRefused 312 = .ok (.ifCond .eq 12, 3) := by decide +kernel
theorem dL_isRefused_315 : decode cL_isRefused 315 = .ok (.iconst 0, 1) := by decide +kernel
theorem dL_isRefused_316 : decode cL_isRefused 316 = .ok (.iload_n 2, 1) := by decide +kernel
theorem dL_isRefused_317 : decode cL_isRefused 317 = .ok (.bipush 30, 2) := by decide +kernel
theorem dL_isRefused_319 : decode cL_isRefused 319 = .ok (.irem, 1) := by decide +kernel
theorem dL_isRefused_320 : decode cL_isRefused 320 = .ok (.isub, 1) := by decide +kernel
theorem dL_isRefused_321 : decode cL_isRefused 321 = .ok (.goto 14, 3) := by decide +kernel
theorem dL_isRefused_324 : decode cL_isRefused 324 = .ok (.aload_n 1, 1) := by decide +kernel
theorem dL_isRefused_325 : decode cL_isRefused 325 = .ok (.bipush 8, 2) := by decide +kernel
theorem dL_isRefused_327 : decode cL_isRefused 327 = .ok (.iaload, 1) := by decide +kernel
theorem dL_isRefused_328 : decode cL_isRefused 328 = .ok (.iconst 1, 1) := by decide +kernel
theorem dL_isRefused_329 : decode cL_isRefused 329 = .ok (.iadd, 1) := by decide +kernel
theorem dL_isRefused_330 : decode cL_isRefused 330 = .ok (.iload_n 2, 1) := by decide +kernel
theorem dL_isRefused_331 : decode cL_isRefused 331 = .ok (.bipush 30, 2) := by decide +kernel
theorem dL_isRefused_333 : decode cL_isRefused 333 = .ok (.irem, 1) := by decide +kernel
theorem dL_isRefused_334 : decode cL_isRefused 334 = .ok (.iadd, 1) := by decide +kernel
theorem dL_isRefused_335 : decode cL_isRefused 335 = .ok (.invokestatic 118, 3) := by decide +kernel
theorem dL_isRefused_338 : decode cL_isRefused 338 = .ok (.ldc2_w 45, 3) := by decide +kernel
theorem dL_isRefused_341 : decode cL_isRefused 341 = .ok (.lcmp, 1) := by decide +kernel
theorem dL_isRefused_342 : decode cL_isRefused 342 = .ok (.ifCond .ne 61, 3) := by decide +kernel
theorem dL_isRefused_345 : decode cL_isRefused 345 = .ok (.aload_n 0, 1) := by decide +kernel
theorem dL_isRefused_346 : decode cL_isRefused 346 = .ok (.invokevirtual 63, 3) := by decide +kernel
theorem dL_isRefused_349 : decode cL_isRefused 349 = .ok (.ifCond .eq 20, 3) := by decide +kernel
theorem dL_isRefused_352 : decode cL_isRefused 352 = .ok (.aload_n 0, 1) := by decide +kernel
theorem dL_isRefused_353 : decode cL_isRefused 353 = .ok (.iconst 0, 1) := by decide +kernel
theorem dL_isRefused_354 : decode cL_isRefused 354 = .ok (.iload_n 2, 1) := by decide +kernel
theorem dL_isRefused_355 : decode cL_isRefused 355 = .ok (.iconst 2, 1) := by decide +kernel
theorem dL_isRefused_356 : decode cL_isRefused 356 = .ok (.idiv, 1) := by decide +kernel
theorem dL_isRefused_357 : decode cL_isRefused 357 = .ok (.iconst 2, 1) := by decide +kernel
theorem dL_isRefused_358 : decode cL_isRefused 358 = .ok (.irem, 1) := by decide +kernel
theorem dL_isRefused_359 : decode cL_isRefused 359 = .ok (.invokestatic 118, 3) := by decide +kernel
theorem dL_isRefused_362 : decode cL_isRefused 362 = .ok (.ldc2_w 49, 3) := by decide +kernel
theorem dL_isRefused_365 : decode cL_isRefused 365 = .ok (.lcmp, 1) := by decide +kernel
theorem dL_isRefused_366 : decode cL_isRefused 366 = .ok (.ifCond .ne 37, 3) := by decide +kernel
theorem dL_isRefused_369 : decode cL_isRefused 369 = .ok (.aload_n 0, 1) := by decide +kernel
theorem dL_isRefused_370 : decode cL_isRefused 370 = .ok (.invokevirtual 51, 3) := by decide +kernel
theorem dL_isRefused_373 : decode cL_isRefused 373 = .ok (.ifCond .gt 16, 3) := by decide +kernel
theorem dL_isRefused_376 : decode cL_isRefused 376 = .ok (.aload_n 0, 1) := by decide +kernel
theorem dL_isRefused_377 : decode cL_isRefused 377 = .ok (.iconst 1, 1) := by decide +kernel
theorem dL_isRefused_378 : decode cL_isRefused 378 = .ok (.iconst 0, 1) := by decide +kernel
theorem dL_isRefused_379 : decode cL_isRefused 379 = .ok (.invokestatic 118, 3) := by decide +kernel
theorem dL_isRefused_382 : decode cL_isRefused 382 = .ok (.ldc2_w 49, 3) := by decide +kernel
theorem dL_isRefused_385 : decode cL_isRefused 385 = .ok (.lcmp, 1) := by decide +kernel
theorem dL_isRefused_386 : decode cL_isRefused 386 = .ok (.ifCond .ne 17, 3) := by decide +kernel
theorem dL_isRefused_389 : decode cL_isRefused 389 = .ok (.aload_n 0, 1) := by decide +kernel
theorem dL_isRefused_390 : decode cL_isRefused 390 = .ok (.invokestatic 122, 3) := by decide +kernel
theorem dL_isRefused_393 : decode cL_isRefused 393 = .ok (.lload 5, 2) := by decide +kernel
theorem dL_isRefused_395 : decode cL_isRefused 395 = .ok (.lcmp, 1) := by decide +kernel
theorem dL_isRefused_396 : decode cL_isRefused 396 = .ok (.ifCond .ne 7, 3) := by decide +kernel
theorem dL_isRefused_399 : decode cL_isRefused 399 = .ok (.iconst 1, 1) := by decide +kernel
theorem dL_isRefused_400 : decode cL_isRefused 400 = .ok (.goto 4, 3) := by decide +kernel
theorem dL_isRefused_403 : decode cL_isRefused 403 = .ok (.iconst 0, 1) := by decide +kernel
theorem dL_isRefused_404 : decode cL_isRefused 404 = .ok (.ireturn, 1) := by decide +kernel
set_option maxRecDepth 20000 in
theorem ggL_law_X5_init : GoodIn wsL_law wsX5_init := goodIn_r _ [8, 9, 10, 11, 12, 13, 14, 15, 16, 17, 18, 19, 20, 21, 22, 23, 24, 25, 26, 27, 28, 29, 30, 31, 32, 33, 34, 35, 36, 37, 38, 39, 40, 41, 42, 43, 44, 45, 46, 47, 48, 49, 50, 51, 52, 53, 54, 55, 56, 57, 58, 59, 60, 61, 62, 63, 64, 4, 65, 66, 67, 68, 69, 70, 71, 72, 73, 74, 75, 76, 77, 78, 3, 79, 80, 81, 82, 83, 84, 85, 86, 87, 398, 399, 400, 401, 402, 403, 404, 405, 406, 407, 408, 393, 394, 395, 396, 397, 409, 410, 411, 412, 413, 414, 415, 416, 417, 418, 419, 420, 421, 422, 423, 424, 425, 426, 427, 428, 429, 430, 431, 432, 433, 434, 435, 436] (by decide +kernel) (by decide +kernel)
set_option maxRecDepth 20000 in
theorem gL_law_X5_init : GoodIn wsL_law (wsX5_init) := ggL_law_X5_init
set_option maxRecDepth 20000 in
theorem ggL_law_L_areNumbers : GoodIn wsL_law wsL_areNumbers := goodIn_ca (goodIn_ca (goodIn_r _ [91, 92, 93, 94, 95, 96, 2, 97, 19, 98, 99, 100, 101, 102, 103, 104, 105, 106, 107, 15, 108, 109, 110, 111, 112, 113, 114, 115, 116, 117, 118, 119, 120, 121, 24, 122, 123, 124, 125, 23, 126, 127, 128, 72, 73, 74, 69, 129, 130, 131, 132, 133, 134, 135, 65, 71, 75, 136, 137, 138, 68, 139, 84, 85, 140, 141, 142, 143, 86, 144, 145, 146, 87, 79, 147, 80, 148, 81, 149, 83, 150, 151, 152, 153, 154, 155, 156, 157, 158, 159, 160, 161, 162, 70, 163, 164, 165, 166, 64, 167, 168, 169, 170, 171, 172, 173, 174, 175, 176, 177, 178, 179, 180, 181, 182, 18, 183, 52, 184, 53, 185, 54, 186, 187, 188, 189, 56, 58, 190, 57, 59, 191, 192, 193, 31, 194, 47, 48, 195, 196, 197, 198, 199, 200, 201, 202, 203, 204, 46, 205, 206, 207, 208, 209, 55, 210, 211, 212, 213, 214, 215, 216, 217, 218, 14, 219, 35, 220, 221, 222, 223, 224, 225, 226, 227, 228, 229, 230, 231, 232, 233, 234, 235, 236, 237, 238, 239, 240, 241, 242, 243, 244, 245, 246, 247, 248, 249, 250, 251, 252, 253, 254, 255, 256, 257, 258, 20, 259, 260, 261, 262, 263, 264, 265, 266, 267, 268, 269, 270, 271, 272, 273, 274, 90, 275, 276, 277, 278, 279, 280, 281, 282, 283, 284, 285, 286, 287, 288, 289, 290, 291, 292, 293, 294, 295, 296, 297, 298, 299, 300, 301, 302, 303, 304, 393, 394, 395, 396, 397, 409, 410, 411, 412, 413, 414, 415, 416, 398, 399, 400, 401, 402, 403, 404, 405, 406, 407, 408, 417, 418, 419, 420, 421, 422, 423, 424, 425, 429, 430, 431, 432, 433, 434, 435, 436, 426, 427, 428] rfl (by decide +kernel)) (goodIn_sub (fun _ h => List.mem_append_left _ (List.mem_append_left _ (List.mem_append_right _ h))) (by decide +kernel))) (goodIn_sub (fun _ h => List.mem_append_left _ (List.mem_append_right _ h)) (by decide +kernel))
set_option maxRecDepth 20000 in
theorem gL_law_L_areNumbers : GoodIn wsL_law (va_wsS RL 136 yL_areNumbers wsL_areNumbers) := goodIn_app (goodIn_of _ (by decide +kernel)) ggL_law_L_areNumbers
set_option maxRecDepth 20000 in
theorem ggL_law_L_isSplit : GoodIn wsL_law wsL_isSplit := goodIn_ca (goodIn_ca (goodIn_ca (goodIn_r _ [307, 93, 308, 309, 90, 310, 311, 312, 313, 314, 315, 316, 317, 318, 94, 95, 96, 2, 97, 19, 98, 276, 277, 278, 279, 280, 281, 282, 283, 284, 285, 286, 246, 247, 248, 249, 250, 99, 100, 101, 102, 103, 300, 301, 302, 303, 304, 113, 114, 115, 116, 117, 118, 119, 120, 121, 24, 15, 122, 123, 124, 125, 23, 126, 127, 128, 72, 73, 74, 69, 129, 130, 131, 132, 133, 134, 135, 65, 71, 75, 136, 137, 138, 68, 139, 84, 85, 140, 141, 142, 143, 86, 144, 145, 146, 87, 79, 147, 80, 148, 81, 149, 83, 150, 151, 152, 153, 154, 155, 156, 157, 158, 159, 160, 161, 162, 70, 163, 164, 165, 166, 64, 167, 168, 169, 170, 171, 172, 173, 174, 175, 176, 177, 178, 179, 180, 181, 182, 18, 183, 52, 184, 53, 185, 54, 186, 187, 188, 189, 56, 58, 190, 57, 59, 191, 192, 193, 31, 194, 47, 48, 195, 196, 197, 198, 199, 200, 201, 202, 203, 204, 46, 205, 206, 207, 208, 209, 55, 210, 211, 212, 213, 214, 215, 216, 217, 218, 14, 219, 35, 110, 111, 112, 220, 221, 222, 223, 224, 225, 241, 242, 243, 244, 245, 226, 227, 228, 229, 230, 231, 232, 233, 234, 235, 236, 237, 238, 239, 240, 104, 105, 106, 107, 108, 109, 287, 288, 289, 290, 291, 292, 293, 294, 295, 296, 297, 298, 299, 319, 320, 321, 322, 323, 324, 325, 326, 327, 328, 329, 330, 331, 332, 333, 25, 334, 267, 335, 336, 337, 338, 339, 340, 341, 342, 343, 263, 264, 265, 393, 394, 395, 396, 397, 409, 410, 411, 412, 413, 414, 415, 416, 417, 418, 419, 420, 421, 422, 423, 424, 425, 429, 430, 431, 432, 433, 434, 435, 436, 398, 399, 400, 401, 402, 403, 404, 405, 406, 407, 408, 426, 427, 428] rfl (by decide +kernel)) (goodIn_sub (fun _ h => List.mem_append_left _ (List.mem_append_left _ (List.mem_append_right _ h))) (by decide +kernel))) (goodIn_sub (fun _ h => List.mem_append_left _ (List.mem_append_right _ h)) (by decide +kernel))) (goodIn_sub (fun _ h => List.mem_append_right _ h) (by decide +kernel))
set_option maxRecDepth 20000 in
theorem gL_law_L_isSplit : GoodIn wsL_law (va_wsS RL 140 yL_isSplit wsL_isSplit) := goodIn_app (goodIn_of _ (by decide +kernel)) ggL_law_L_isSplit
set_option maxRecDepth 20000 in
theorem ggL_law_L_isRefused : GoodIn wsL_law wsL_isRefused := goodIn_ca (goodIn_ca (goodIn_ca (goodIn_r _ [346, 325, 326, 327, 308, 309, 90, 310, 311, 312, 313, 314, 315, 316, 317, 318, 94, 95, 96, 2, 97, 19, 98, 276, 277, 278, 279, 280, 281, 282, 283, 284, 285, 286, 246, 247, 248, 249, 250, 99, 100, 101, 102, 103, 300, 301, 302, 303, 304, 113, 114, 115, 116, 117, 118, 119, 120, 121, 24, 15, 122, 123, 124, 125, 23, 126, 127, 128, 72, 73, 74, 69, 129, 130, 131, 132, 133, 134, 135, 65, 71, 75, 136, 137, 138, 68, 139, 84, 85, 140, 141, 142, 143, 86, 144, 145, 146, 87, 79, 147, 80, 148, 81, 149, 83, 150, 151, 152, 153, 154, 155, 156, 157, 158, 159, 160, 161, 162, 70, 163, 164, 165, 166, 64, 167, 168, 169, 170, 171, 172, 173, 174, 175, 176, 177, 178, 179, 180, 181, 182, 18, 183, 52, 184, 53, 185, 54, 186, 187, 188, 189, 56, 58, 190, 57, 59, 191, 192, 193, 31, 194, 47, 48, 195, 196, 197, 198, 199, 200, 201, 202, 203, 204, 46, 205, 206, 207, 208, 209, 55, 210, 211, 212, 213, 214, 215, 216, 217, 218, 14, 219, 35, 110, 111, 112, 220, 221, 222, 223, 224, 225, 241, 242, 243, 244, 245, 347, 348, 349, 322, 323, 350, 351, 352, 353, 291, 292, 354, 355, 356, 357, 358, 293, 294, 295, 339, 340, 341, 342, 343, 359, 360, 361, 362, 363, 364, 365, 366, 367, 368, 369, 370, 371, 372, 373, 374, 108, 375, 376, 377, 378, 319, 320, 321, 324, 328, 329, 330, 331, 332, 333, 25, 334, 267, 335, 336, 337, 338, 263, 264, 265, 287, 288, 289, 290, 296, 297, 298, 299, 393, 394, 395, 396, 397, 409, 410, 411, 412, 413, 414, 415, 416, 417, 418, 419, 420, 421, 422, 423, 424, 425, 429, 430, 431, 432, 433, 434, 435, 436, 398, 399, 400, 401, 402, 403, 404, 405, 406, 407, 408, 426, 427, 428] rfl (by decide +kernel)) (goodIn_sub (fun _ h => List.mem_append_left _ (List.mem_append_left _ (List.mem_append_right _ h))) (by decide +kernel))) (goodIn_sub (fun _ h => List.mem_append_left _ (List.mem_append_right _ h)) (by decide +kernel))) (goodIn_sub (fun _ h => List.mem_append_right _ h) (by decide +kernel))
set_option maxRecDepth 20000 in
theorem gL_law_L_isRefused : GoodIn wsL_law (va_wsS RL 144 yL_isRefused wsL_isRefused) := goodIn_app (goodIn_of _ (by decide +kernel)) ggL_law_L_isRefused
set_option maxRecDepth 20000 in
theorem ggL_law_L_dice : GoodIn wsL_law wsL_dice := goodIn_r _ [381, 382, 383] (by decide +kernel) (by decide +kernel)
set_option maxRecDepth 20000 in
theorem gL_law_L_dice : GoodIn wsL_law (va_wsS RL 148 yL_dice wsL_dice) := goodIn_app (goodIn_of _ (by decide +kernel)) ggL_law_L_dice
set_option maxRecDepth 20000 in
theorem ggL_law_L_setAsset : GoodIn wsL_law wsL_setAsset := goodIn_ca (goodIn_ca (goodIn_r _ [349, 322, 323, 350, 351, 352, 2, 353, 280, 281, 291, 292, 15, 354, 355, 356, 357, 358, 19, 284, 285, 286, 293, 294, 295, 339, 340, 341, 18, 342, 52, 184, 343, 53, 185, 54, 55, 56, 57, 58, 59, 393, 394, 395, 396, 397, 398, 399, 400, 401, 402, 403, 404, 405, 406, 407, 408, 426, 427, 428, 409, 410, 411, 412, 413, 414, 415, 416] (by decide +kernel) (by decide +kernel)) (goodIn_sub (fun _ h => List.mem_append_left _ (List.mem_append_left _ (List.mem_append_right _ h))) (by decide +kernel))) (goodIn_sub (fun _ h => List.mem_append_left _ (List.mem_append_right _ h)) (by decide +kernel))
set_option maxRecDepth 20000 in
theorem gL_law_L_setAsset : GoodIn wsL_law (va_wsS RL 126 yL_setAsset wsL_setAsset) := goodIn_app (goodIn_of _ (by decide +kernel)) ggL_law_L_setAsset
set_option maxRecDepth 20000 in
theorem ggL_law_X5_told : GoodIn wsL_law wsX5_told := goodIn_r _ [97, 19, 98, 393, 394, 395, 396, 397, 409, 410, 411, 412, 413, 414, 415, 416] (by decide +kernel) (by decide +kernel)
set_option maxRecDepth 20000 in
theorem gL_law_X5_told : GoodIn wsL_law (wsV RL 51 RX5 yX5_told wsX5_told) := goodIn_app (goodIn_of _ (by decide +kernel)) ggL_law_X5_told
set_option maxRecDepth 20000 in
theorem ggL_law_L_setMoves : GoodIn wsL_law wsL_setMoves := goodIn_ca (goodIn_r _ [361, 323, 362, 363, 364, 2, 365, 291, 292, 15, 366, 367, 19, 293, 294, 295, 339, 340, 341, 18, 342, 52, 184, 343, 53, 185, 54, 55, 56, 57, 58, 59, 393, 394, 395, 396, 397, 398, 399, 400, 401, 402, 403, 404, 405, 406, 407, 408, 409, 410, 411, 412, 413, 414, 415, 416, 426, 427, 428] (by decide +kernel) (by decide +kernel)) (goodIn_sub (fun _ h => List.mem_append_left _ (List.mem_append_right _ h)) (by decide +kernel))
set_option maxRecDepth 20000 in
theorem gL_law_L_setMoves : GoodIn wsL_law (va_wsS RL 129 yL_setMoves wsL_setMoves) := goodIn_app (goodIn_of _ (by decide +kernel)) ggL_law_L_setMoves
set_option maxRecDepth 20000 in
theorem ggL_law_L_setNote : GoodIn wsL_law wsL_setNote := goodIn_ca (goodIn_r _ [370, 323, 371, 372, 373, 2, 374, 291, 292, 15, 108, 375, 376, 377, 378, 19, 293, 294, 295, 339, 340, 341, 18, 342, 52, 184, 343, 53, 185, 54, 55, 56, 57, 58, 59, 393, 394, 395, 396, 397, 398, 399, 400, 401, 402, 403, 404, 405, 406, 407, 408, 409, 410, 411, 412, 413, 414, 415, 416, 426, 427, 428] (by decide +kernel) (by decide +kernel)) (goodIn_sub (fun _ h => List.mem_append_left _ (List.mem_append_right _ h)) (by decide +kernel))
set_option maxRecDepth 20000 in
theorem gL_law_L_setNote : GoodIn wsL_law (va_wsS RL 132 yL_setNote wsL_setNote) := goodIn_app (goodIn_of _ (by decide +kernel)) ggL_law_L_setNote
set_option maxRecDepth 20000 in
theorem ggL_law_X5_setKind : GoodIn wsL_law wsX5_setKind := goodIn_r _ [387, 15, 388, 389, 19, 339, 340, 341, 18, 342, 52, 184, 343, 53, 185, 54, 55, 56, 57, 58, 59, 393, 394, 395, 396, 397, 398, 399, 400, 401, 402, 403, 404, 405, 406, 407, 408, 409, 410, 411, 412, 413, 414, 415, 416, 426, 427, 428] (by decide +kernel) (by decide +kernel)
set_option maxRecDepth 20000 in
theorem gL_law_X5_setKind : GoodIn wsL_law (wsV RL 153 RX5 yX5_setKind wsX5_setKind) := goodIn_app (goodIn_of _ (by decide +kernel)) ggL_law_X5_setKind
set_option maxRecDepth 20000 in
theorem ggL_law_X5_paid : GoodIn wsL_law wsX5_paid := goodIn_r _ [249, 19, 250, 393, 394, 395, 396, 397, 409, 410, 411, 412, 413, 414, 415, 416] (by decide +kernel) (by decide +kernel)
set_option maxRecDepth 20000 in
theorem gL_law_X5_paid : GoodIn wsL_law (wsV RL 60 RX5 yX5_paid wsX5_paid) := goodIn_app (goodIn_of _ (by decide +kernel)) ggL_law_X5_paid
set_option maxRecDepth 20000 in
theorem ggL_law_L_isTold : GoodIn wsL_law wsL_isTold := goodIn_ca (goodIn_ca (goodIn_ca (goodIn_r _ [392, 327, 94, 95, 96, 2, 97, 19, 98, 99, 100, 101, 102, 103, 319, 320, 90, 321, 322, 323, 324, 325, 326, 328, 329, 330, 331, 332, 333, 25, 15, 334, 267, 181, 182, 18, 183, 52, 184, 53, 185, 54, 186, 187, 188, 189, 56, 58, 190, 57, 59, 191, 192, 193, 31, 194, 47, 48, 195, 145, 142, 146, 196, 197, 198, 199, 200, 141, 143, 201, 202, 203, 204, 46, 205, 206, 207, 208, 209, 55, 210, 211, 212, 213, 214, 215, 335, 336, 337, 338, 339, 340, 341, 342, 343, 263, 264, 265, 276, 277, 278, 279, 280, 281, 282, 283, 284, 285, 286, 287, 288, 289, 290, 291, 292, 108, 24, 293, 294, 295, 123, 124, 125, 23, 126, 127, 128, 72, 73, 74, 69, 129, 130, 131, 132, 133, 134, 135, 65, 71, 75, 136, 137, 138, 68, 139, 84, 85, 140, 86, 144, 87, 79, 147, 80, 148, 81, 149, 83, 150, 151, 152, 153, 154, 155, 156, 157, 158, 159, 160, 161, 162, 70, 163, 164, 165, 166, 64, 167, 168, 169, 170, 171, 172, 173, 174, 175, 176, 177, 178, 179, 180, 216, 217, 218, 14, 219, 35, 110, 111, 112, 220, 221, 222, 223, 224, 225, 296, 297, 298, 299, 113, 114, 115, 116, 117, 246, 247, 248, 249, 250, 300, 301, 302, 303, 304, 268, 269, 270, 271, 272, 393, 394, 395, 396, 397, 409, 410, 411, 412, 413, 414, 415, 416, 398, 399, 400, 401, 402, 403, 404, 405, 406, 407, 408, 426, 427, 428, 417, 418, 419, 420, 421, 422, 423, 424, 425, 429, 430, 431, 432, 433, 434, 435, 436] rfl (by decide +kernel)) (goodIn_sub (fun _ h => List.mem_append_right _ h) (by decide +kernel))) (goodIn_sub (fun _ h => List.mem_append_left _ (List.mem_append_left _ (List.mem_append_right _ h))) (by decide +kernel))) (goodIn_sub (fun _ h => List.mem_append_left _ (List.mem_append_right _ h)) (by decide +kernel))
set_option maxRecDepth 20000 in
theorem gL_law_L_isTold : GoodIn wsL_law (va_wsS RL 157 yL_isTold wsL_isTold) := goodIn_app (goodIn_of _ (by decide +kernel)) ggL_law_L_isTold
set_option maxRecDepth 20000 in
theorem ggL_law_L_act : GoodIn wsL_law wsL_act := goodIn_ca (goodIn_ca (goodIn_ca (goodIn_r _ [321, 322, 323, 324, 325, 326, 327, 328, 329, 330, 2, 331, 332, 333, 19, 103, 98, 25, 15, 334, 267, 181, 182, 18, 183, 52, 184, 53, 185, 54, 186, 187, 188, 189, 56, 58, 190, 57, 59, 191, 192, 193, 31, 194, 47, 48, 195, 145, 142, 146, 196, 197, 198, 199, 200, 141, 143, 201, 202, 203, 204, 46, 205, 206, 207, 208, 209, 55, 210, 211, 212, 213, 214, 215, 335, 336, 337, 338, 339, 340, 341, 342, 343, 263, 264, 265, 276, 277, 278, 279, 280, 281, 282, 283, 284, 285, 286, 287, 288, 289, 290, 291, 292, 108, 24, 293, 294, 295, 123, 124, 125, 23, 126, 127, 128, 72, 73, 74, 69, 129, 130, 131, 132, 133, 134, 135, 65, 71, 75, 136, 137, 138, 68, 139, 84, 85, 140, 86, 144, 87, 79, 147, 80, 148, 81, 149, 83, 150, 151, 152, 153, 154, 155, 156, 157, 158, 159, 160, 161, 162, 70, 163, 164, 165, 166, 64, 167, 168, 169, 170, 171, 172, 173, 174, 175, 176, 177, 178, 179, 180, 216, 217, 218, 14, 219, 35, 110, 111, 112, 220, 221, 222, 223, 224, 225, 296, 297, 298, 299, 393, 394, 395, 396, 397, 409, 410, 411, 412, 413, 414, 415, 416, 398, 399, 400, 401, 402, 403, 404, 405, 406, 407, 408, 426, 427, 428, 417, 418, 419, 420, 421, 422, 423, 424, 425, 429, 430, 431, 432, 433, 434, 435, 436] (by decide +kernel) (by decide +kernel)) (goodIn_sub (fun _ h => List.mem_append_right _ h) (by decide +kernel))) (goodIn_sub (fun _ h => List.mem_append_left _ (List.mem_append_left _ (List.mem_append_right _ h))) (by decide +kernel))) (goodIn_sub (fun _ h => List.mem_append_left _ (List.mem_append_right _ h)) (by decide +kernel))
set_option maxRecDepth 20000 in
theorem gL_law_L_act : GoodIn wsL_law (va_wsS RL 118 yL_act wsL_act) := goodIn_app (goodIn_of _ (by decide +kernel)) ggL_law_L_act
set_option maxRecDepth 20000 in
theorem ggL_law_X5_isOver : GoodIn wsL_law wsX5_isOver := goodIn_r _ [102, 19, 103, 393, 394, 395, 396, 397, 409, 410, 411, 412, 413, 414, 415, 416] (by decide +kernel) (by decide +kernel)
set_option maxRecDepth 20000 in
theorem gL_law_X5_isOver : GoodIn wsL_law (wsV RL 63 RX5 yX5_isOver wsX5_isOver) := goodIn_app (goodIn_of _ (by decide +kernel)) ggL_law_X5_isOver
theorem dL_law_0 : decode cL_law 0 = .ok (.new 10, 3) := by decide +kernel
theorem dL_law_3 : decode cL_law 3 = .ok (.dup, 1) := by decide +kernel
theorem dL_law_4 : decode cL_law 4 = .ok (.invokespecial 135, 3) := by decide +kernel
theorem dL_law_7 : decode cL_law 7 = .ok (.astore_n 1, 1) := by decide +kernel
theorem dL_law_8 : decode cL_law 8 = .ok (.bipush 15, 2) := by decide +kernel
theorem dL_law_10 : decode cL_law 10 = .ok (.newarray .int, 2) := by decide +kernel
theorem dL_law_12 : decode cL_law 12 = .ok (.astore_n 2, 1) := by decide +kernel
theorem dL_law_13 : decode cL_law 13 = .ok (.bipush 9, 2) := by decide +kernel
theorem dL_law_15 : decode cL_law 15 = .ok (.newarray .int, 2) := by decide +kernel
theorem dL_law_17 : decode cL_law 17 = .ok (.astore_n 3, 1) := by decide +kernel
theorem dL_law_18 : decode cL_law 18 = .ok (.bipush 10, 2) := by decide +kernel
theorem dL_law_20 : decode cL_law 20 = .ok (.newarray .long, 2) := by decide +kernel
theorem dL_law_22 : decode cL_law 22 = .ok (.astore 4, 2) := by decide +kernel
theorem dL_law_24 : decode cL_law 24 = .ok (.aload_n 2, 1) := by decide +kernel
theorem dL_law_25 : decode cL_law 25 = .ok (.iconst 0, 1) := by decide +kernel
theorem dL_law_26 : decode cL_law 26 = .ok (.sipush 500, 3) := by decide +kernel
theorem dL_law_29 : decode cL_law 29 = .ok (.iastore, 1) := by decide +kernel
theorem dL_law_30 : decode cL_law 30 = .ok (.aload_n 2, 1) := by decide +kernel
theorem dL_law_31 : decode cL_law 31 = .ok (.iconst 1, 1) := by decide +kernel
theorem dL_law_32 : decode cL_law 32 = .ok (.bipush 50, 2) := by decide +kernel
theorem dL_law_34 : decode cL_law 34 = .ok (.iastore, 1) := by decide +kernel
theorem dL_law_35 : decode cL_law 35 = .ok (.aload_n 2, 1) := by decide +kernel
theorem dL_law_36 : decode cL_law 36 = .ok (.iconst 2, 1) := by decide +kernel
theorem dL_law_37 : decode cL_law 37 = .ok (.bipush 40, 2) := by decide +kernel
theorem dL_law_39 : decode cL_law 39 = .ok (.iastore, 1) := by decide +kernel
theorem dL_law_40 : decode cL_law 40 = .ok (.aload_n 2, 1) := by decide +kernel
theorem dL_law_41 : decode cL_law 41 = .ok (.iconst 3, 1) := by decide +kernel
theorem dL_law_42 : decode cL_law 42 = .ok (.sipush 500, 3) := by decide +kernel
theorem dL_law_45 : decode cL_law 45 = .ok (.iastore, 1) := by decide +kernel
theorem dL_law_46 : decode cL_law 46 = .ok (.aload_n 2, 1) := by decide +kernel
theorem dL_law_47 : decode cL_law 47 = .ok (.iconst 4, 1) := by decide +kernel
theorem dL_law_48 : decode cL_law 48 = .ok (.bipush 50, 2) := by decide +kernel
theorem dL_law_50 : decode cL_law 50 = .ok (.iastore, 1) := by decide +kernel
theorem dL_law_51 : decode cL_law 51 = .ok (.aload_n 2, 1) := by decide +kernel
theorem dL_law_52 : decode cL_law 52 = .ok (.iconst 5, 1) := by decide +kernel
theorem dL_law_53 : decode cL_law 53 = .ok (.bipush 40, 2) := by decide +kernel
theorem dL_law_55 : decode cL_law 55 = .ok (.iastore, 1) := by decide +kernel
theorem dL_law_56 : decode cL_law 56 = .ok (.aload_n 2, 1) := by decide +kernel
theorem dL_law_57 : decode cL_law 57 = .ok (.bipush 7, 2) := by decide +kernel
theorem dL_law_59 : decode cL_law 59 = .ok (.iconst 5, 1) := by decide +kernel
theorem dL_law_60 : decode cL_law 60 = .ok (.iastore, 1) := by decide +kernel
theorem dL_law_61 : decode cL_law 61 = .ok (.aload_n 2, 1) := by decide +kernel
theorem dL_law_62 : decode cL_law 62 = .ok (.bipush 8, 2) := by decide +kernel
theorem dL_law_64 : decode cL_law 64 = .ok (.iconst 4, 1) := by decide +kernel
theorem dL_law_65 : decode cL_law 65 = .ok (.iastore, 1) := by decide +kernel
theorem dL_law_66 : decode cL_law 66 = .ok (.aload_n 2, 1) := by decide +kernel
theorem dL_law_67 : decode cL_law 67 = .ok (.bipush 9, 2) := by decide +kernel
theorem dL_law_69 : decode cL_law 69 = .ok (.bipush 60, 2) := by decide +kernel
theorem dL_law_71 : decode cL_law 71 = .ok (.iastore, 1) := by decide +kernel
theorem dL_law_72 : decode cL_law 72 = .ok (.aload_n 2, 1) := by decide +kernel
theorem dL_law_73 : decode cL_law 73 = .ok (.bipush 10, 2) := by decide +kernel
theorem dL_law_75 : decode cL_law 75 = .ok (.bipush 80, 2) := by decide +kernel
theorem dL_law_77 : decode cL_law 77 = .ok (.iastore, 1) := by decide +kernel
theorem dL_law_78 : decode cL_law 78 = .ok (.aload_n 2, 1) := by decide +kernel
theorem dL_law_79 : decode cL_law 79 = .ok (.bipush 11, 2) := by decide +kernel
theorem dL_law_81 : decode cL_law 81 = .ok (.bipush 100, 2) := by decide +kernel
theorem dL_law_83 : decode cL_law 83 = .ok (.iastore, 1) := by decide +kernel
theorem dL_law_84 : decode cL_law 84 = .ok (.aload_n 2, 1) := by decide +kernel
theorem dL_law_85 : decode cL_law 85 = .ok (.bipush 12, 2) := by decide +kernel
theorem dL_law_87 : decode cL_law 87 = .ok (.bipush 50, 2) := by decide +kernel
theorem dL_law_89 : decode cL_law 89 = .ok (.iastore, 1) := by decide +kernel
theorem dL_law_90 : decode cL_law 90 = .ok (.aload_n 1, 1) := by decide +kernel
theorem dL_law_91 : decode cL_law 91 = .ok (.aload_n 2, 1) := by decide +kernel
theorem dL_law_92 : decode cL_law 92 = .ok (.aload_n 3, 1) := by decide +kernel
theorem dL_law_93 : decode cL_law 93 = .ok (.iconst 1, 1) := by decide +kernel
theorem dL_law_94 : decode cL_law 94 = .ok (.invokestatic 136, 3) := by decide +kernel
theorem dL_law_97 : decode cL_law 97 = .ok (.ifCond .eq 35, 3) := by decide +kernel
theorem dL_law_100 : decode cL_law 100 = .ok (.aload_n 1, 1) := by decide +kernel
theorem dL_law_101 : decode cL_law 101 = .ok (.aload_n 2, 1) := by decide +kernel
theorem dL_law_102 : decode cL_law 102 = .ok (.aload 4, 2) := by decide +kernel
theorem dL_law_104 : decode cL_law 104 = .ok (.invokestatic 140, 3) := by decide +kernel
theorem dL_law_107 : decode cL_law 107 = .ok (.ifCond .eq 25, 3) := by decide +kernel
theorem dL_law_110 : decode cL_law 110 = .ok (.aload_n 1, 1) := by decide +kernel
theorem dL_law_111 : decode cL_law 111 = .ok (.aload_n 2, 1) := by decide +kernel
theorem dL_law_112 : decode cL_law 112 = .ok (.iconst 0, 1) := by decide +kernel
theorem dL_law_113 : decode cL_law 113 = .ok (.invokestatic 144, 3) := by decide +kernel
theorem dL_law_116 : decode cL_law 116 = .ok (.ifCond .eq 16, 3) := by decide +kernel
theorem dL_law_119 : decode cL_law 119 = .ok (.aload_n 1, 1) := by decide +kernel
theorem dL_law_120 : decode cL_law 120 = .ok (.aload_n 2, 1) := by decide +kernel
theorem dL_law_121 : decode cL_law 121 = .ok (.iconst 1, 1) := by decide +kernel
theorem dL_law_122 : decode cL_law 122 = .ok (.invokestatic 144, 3) := by decide +kernel
theorem dL_law_125 : decode cL_law 125 = .ok (.ifCond .eq 7, 3) := by decide +kernel
theorem dL_law_128 : decode cL_law 128 = .ok (.iconst 1, 1) := by decide +kernel
theorem dL_law_129 : decode cL_law 129 = .ok (.goto 4, 3) := by decide +kernel
theorem dL_law_132 : decode cL_law 132 = .ok (.iconst 0, 1) := by decide +kernel
theorem dL_law_133 : decode cL_law 133 = .ok (.istore 5, 2) := by decide +kernel
theorem dL_law_135 : decode cL_law 135 = .ok (.iconst 0, 1) := by decide +kernel
theorem dL_law_136 : decode cL_law 136 = .ok (.istore 6, 2) := by decide +kernel
theorem dL_law_138 : decode cL_law 138 = .ok (.iload 6, 2) := by decide +kernel
theorem dL_law_140 : decode cL_law 140 = .ok (.bipush 50, 2) := by decide +kernel
theorem dL_law_142 : decode cL_law 142 = .ok (.if_icmp .ge 676, 3) := by decide +kernel
theorem dL_law_145 : decode cL_law 145 = .ok (.iload 5, 2) := by decide +kernel
theorem dL_law_147 : decode cL_law 147 = .ok (.ifCond .eq 671, 3) := by decide +kernel
theorem dL_law_150 : decode cL_law 150 = .ok (.aload_n 0, 1) := by decide +kernel
theorem dL_law_151 : decode cL_law 151 = .ok (.iload 6, 2) := by decide +kernel
theorem dL_law_153 : decode cL_law 153 = .ok (.invokestatic 148, 3) := by decide +kernel
theorem dL_law_156 : decode cL_law 156 = .ok (.istore 7, 2) := by decide +kernel
theorem dL_law_158 : decode cL_law 158 = .ok (.iload 7, 2) := by decide +kernel
theorem dL_law_160 : decode cL_law 160 = .ok (.bipush 16, 2) := by decide +kernel
theorem dL_law_162 : decode cL_law 162 = .ok (.idiv, 1) := by decide +kernel
theorem dL_law_163 : decode cL_law 163 = .ok (.istore 8, 2) := by decide +kernel
theorem dL_law_165 : decode cL_law 165 = .ok (.iload 7, 2) := by decide +kernel
theorem dL_law_167 : decode cL_law 167 = .ok (.bipush 16, 2) := by decide +kernel
theorem dL_law_169 : decode cL_law 169 = .ok (.irem, 1) := by decide +kernel
theorem dL_law_170 : decode cL_law 170 = .ok (.istore 9, 2) := by decide +kernel
theorem dL_law_172 : decode cL_law 172 = .ok (.iload 9, 2) := by decide +kernel
theorem dL_law_174 : decode cL_law 174 = .ok (.iconst 2, 1) := by decide +kernel
theorem dL_law_175 : decode cL_law 175 = .ok (.if_icmp .ge 138, 3) := by decide +kernel
theorem dL_law_178 : decode cL_law 178 = .ok (.iconst 3, 1) := by decide +kernel
theorem dL_law_179 : decode cL_law 179 = .ok (.iload 8, 2) := by decide +kernel
theorem dL_law_181 : decode cL_law 181 = .ok (.iconst 2, 1) := by decide +kernel
theorem dL_law_182 : decode cL_law 182 = .ok (.irem, 1) := by decide +kernel
theorem dL_law_183 : decode cL_law 183 = .ok (.imul, 1) := by decide +kernel
theorem dL_law_184 : decode cL_law 184 = .ok (.istore 10, 2) := by decide +kernel
theorem dL_law_186 : decode cL_law 186 = .ok (.aload_n 2, 1) := by decide +kernel
theorem dL_law_187 : decode cL_law 187 = .ok (.iload 10, 2) := by decide +kernel
theorem dL_law_189 : decode cL_law 189 = .ok (.bipush 100, 2) := by decide +kernel
theorem dL_law_191 : decode cL_law 191 = .ok (.iload 8, 2) := by decide +kernel
theorem dL_law_193 : decode cL_law 193 = .ok (.iconst 2, 1) := by decide +kernel
theorem dL_law_194 : decode cL_law 194 = .ok (.idiv, 1) := by decide +kernel
theorem dL_law_195 : decode cL_law 195 = .ok (.iload 8, 2) := by decide +kernel
theorem dL_law_197 : decode cL_law 197 = .ok (.iconst 3, 1) := by decide +kernel
theorem dL_law_198 : decode cL_law 198 = .ok (.irem, 1) := by decide +kernel
theorem dL_law_199 : decode cL_law 199 = .ok (.ifCond .ne 9, 3) := by decide +kernel
theorem dL_law_202 : decode cL_law 202 = .ok (.sipush 901, 3) := by decide +kernel
theorem dL_law_205 : decode cL_law 205 = .ok (.goto 5, 3) := by decide +kernel
theorem dL_law_208 : decode cL_law 208 = .ok (.bipush 60, 2) := by decide +kernel
theorem dL_law_210 : decode cL_law 210 = .ok (.irem, 1) := by decide +kernel
theorem dL_law_211 : decode cL_law 211 = .ok (.iadd, 1) := by decide +kernel
theorem dL_law_212 : decode cL_law 212 = .ok (.iastore, 1) := by decide +kernel
theorem dL_law_213 : decode cL_law 213 = .ok (.aload_n 2, 1) := by decide +kernel
theorem dL_law_214 : decode cL_law 214 = .ok (.iload 10, 2) := by decide +kernel
theorem dL_law_216 : decode cL_law 216 = .ok (.iconst 1, 1) := by decide +kernel
theorem dL_law_217 : decode cL_law 217 = .ok (.iadd, 1) := by decide +kernel
theorem dL_law_218 : decode cL_law 218 = .ok (.iload 8, 2) := by decide +kernel
theorem dL_law_220 : decode cL_law 220 = .ok (.bipush 120, 2) := by decide +kernel
theorem dL_law_222 : decode cL_law 222 = .ok (.idiv, 1) := by decide +kernel
theorem dL_law_223 : decode cL_law 223 = .ok (.iload 8, 2) := by decide +kernel
theorem dL_law_225 : decode cL_law 225 = .ok (.iconst 5, 1) := by decide +kernel
theorem dL_law_226 : decode cL_law 226 = .ok (.irem, 1) := by decide +kernel
theorem dL_law_227 : decode cL_law 227 = .ok (.ifCond .ne 9, 3) := by decide +kernel
theorem dL_law_230 : decode cL_law 230 = .ok (.sipush 201, 3) := by decide +kernel
theorem dL_law_233 : decode cL_law 233 = .ok (.goto 5, 3) := by decide +kernel
theorem dL_law_236 : decode cL_law 236 = .ok (.bipush 40, 2) := by decide +kernel
theorem dL_law_238 : decode cL_law 238 = .ok (.irem, 1) := by decide +kernel
theorem dL_law_239 : decode cL_law 239 = .ok (.iastore, 1) := by decide +kernel
theorem dL_law_240 : decode cL_law 240 = .ok (.aload_n 2, 1) := by decide +kernel
theorem dL_law_241 : decode cL_law 241 = .ok (.iload 10, 2) := by decide +kernel
theorem dL_law_243 : decode cL_law 243 = .ok (.iconst 2, 1) := by decide +kernel
theorem dL_law_244 : decode cL_law 244 = .ok (.iadd, 1) := by decide +kernel
theorem dL_law_245 : decode cL_law 245 = .ok (.iload 8, 2) := by decide +kernel
theorem dL_law_247 : decode cL_law 247 = .ok (.sipush 5000, 3) := by decide +kernel
theorem dL_law_250 : decode cL_law 250 = .ok (.idiv, 1) := by decide +kernel
theorem dL_law_251 : decode cL_law 251 = .ok (.iload 8, 2) := by decide +kernel
theorem dL_law_253 : decode cL_law 253 = .ok (.bipush 7, 2) := by decide +kernel
theorem dL_law_255 : decode cL_law 255 = .ok (.irem, 1) := by decide +kernel
theorem dL_law_256 : decode cL_law 256 = .ok (.ifCond .ne 9, 3) := by decide +kernel
theorem dL_law_259 : decode cL_law 259 = .ok (.sipush 201, 3) := by decide +kernel
theorem dL_law_262 : decode cL_law 262 = .ok (.goto 5, 3) := by decide +kernel
theorem dL_law_265 : decode cL_law 265 = .ok (.bipush 40, 2) := by decide +kernel
theorem dL_law_267 : decode cL_law 267 = .ok (.irem, 1) := by decide +kernel
theorem dL_law_268 : decode cL_law 268 = .ok (.iastore, 1) := by decide +kernel
theorem dL_law_269 : decode cL_law 269 = .ok (.aload_n 1, 1) := by decide +kernel
theorem dL_law_270 : decode cL_law 270 = .ok (.iload 8, 2) := by decide +kernel
theorem dL_law_272 : decode cL_law 272 = .ok (.iconst 2, 1) := by decide +kernel
theorem dL_law_273 : decode cL_law 273 = .ok (.irem, 1) := by decide +kernel
theorem dL_law_274 : decode cL_law 274 = .ok (.aload_n 2, 1) := by decide +kernel
theorem dL_law_275 : decode cL_law 275 = .ok (.iload 10, 2) := by decide +kernel
theorem dL_law_277 : decode cL_law 277 = .ok (.iaload, 1) := by decide +kernel
theorem dL_law_278 : decode cL_law 278 = .ok (.aload_n 2, 1) := by decide +kernel
theorem dL_law_279 : decode cL_law 279 = .ok (.iload 10, 2) := by decide +kernel
theorem dL_law_281 : decode cL_law 281 = .ok (.iconst 1, 1) := by decide +kernel
theorem dL_law_282 : decode cL_law 282 = .ok (.iadd, 1) := by decide +kernel
theorem dL_law_283 : decode cL_law 283 = .ok (.iaload, 1) := by decide +kernel
theorem dL_law_284 : decode cL_law 284 = .ok (.aload_n 2, 1) := by decide +kernel
theorem dL_law_285 : decode cL_law 285 = .ok (.iload 10, 2) := by decide +kernel
theorem dL_law_287 : decode cL_law 287 = .ok (.iconst 2, 1) := by decide +kernel
theorem dL_law_288 : decode cL_law 288 = .ok (.iadd, 1) := by decide +kernel
theorem dL_law_289 : decode cL_law 289 = .ok (.iaload, 1) := by decide +kernel
theorem dL_law_290 : decode cL_law 290 = .ok (.invokestatic 126, 3) := by decide +kernel
theorem dL_law_293 : decode cL_law 293 = .ok (.ifCond .ne 14, 3) := by decide +kernel
theorem dL_law_296 : decode cL_law 296 = .ok (.aload_n 1, 1) := by decide +kernel
theorem dL_law_297 : decode cL_law 297 = .ok (.invokevirtual 51, 3) := by decide +kernel
theorem dL_law_300 : decode cL_law 300 = .ok (.ifCond .ne 7, 3) := by decide +kernel
theorem dL_law_303 : decode cL_law 303 = .ok (.iconst 1, 1) := by decide +kernel
theorem dL_law_304 : decode cL_law 304 = .ok (.goto 4, 3) := by decide +kernel
theorem dL_law_307 : decode cL_law 307 = .ok (.iconst 0, 1) := by decide +kernel
theorem dL_law_308 : decode cL_law 308 = .ok (.istore 5, 2) := by decide +kernel
theorem dL_law_310 : decode cL_law 310 = .ok (.goto 403, 3) := by decide +kernel
theorem dL_law_313 : decode cL_law 313 = .ok (.iload 9, 2) := by decide +kernel
theorem dL_law_315 : decode cL_law 315 = .ok (.iconst 2, 1) := by decide +kernel
theorem dL_law_316 : decode cL_law 316 = .ok (.if_icmp .ne 65, 3) := by decide +kernel
theorem dL_law_319 : decode cL_law 319 = .ok (.aload_n 2, 1) := by decide +kernel
theorem dL_law_320 : decode cL_law 320 = .ok (.bipush 6, 2) := by decide +kernel
theorem dL_law_322 : decode cL_law 322 = .ok (.iload 8, 2) := by decide +kernel
theorem dL_law_324 : decode cL_law 324 = .ok (.iconst 2, 1) := by decide +kernel
theorem dL_law_325 : decode cL_law 325 = .ok (.irem, 1) := by decide +kernel
theorem dL_law_326 : decode cL_law 326 = .ok (.iastore, 1) := by decide +kernel
theorem dL_law_327 : decode cL_law 327 = .ok (.aload_n 2, 1) := by decide +kernel
theorem dL_law_328 : decode cL_law 328 = .ok (.bipush 7, 2) := by decide +kernel
theorem dL_law_330 : decode cL_law 330 = .ok (.iconst 1, 1) := by decide +kernel
theorem dL_law_331 : decode cL_law 331 = .ok (.iload 8, 2) := by decide +kernel
theorem dL_law_333 : decode cL_law 333 = .ok (.iconst 2, 1) := by decide +kernel
theorem dL_law_334 : decode cL_law 334 = .ok (.idiv, 1) := by decide +kernel
theorem dL_law_335 : decode cL_law 335 = .ok (.bipush 9, 2) := by decide +kernel
theorem dL_law_337 : decode cL_law 337 = .ok (.irem, 1) := by decide +kernel
theorem dL_law_338 : decode cL_law 338 = .ok (.iadd, 1) := by decide +kernel
theorem dL_law_339 : decode cL_law 339 = .ok (.iastore, 1) := by decide +kernel
theorem dL_law_340 : decode cL_law 340 = .ok (.aload_n 1, 1) := by decide +kernel
theorem dL_law_341 : decode cL_law 341 = .ok (.iload 8, 2) := by decide +kernel
theorem dL_law_343 : decode cL_law 343 = .ok (.iconst 2, 1) := by decide +kernel
theorem dL_law_344 : decode cL_law 344 = .ok (.irem, 1) := by decide +kernel
theorem dL_law_345 : decode cL_law 345 = .ok (.iconst 1, 1) := by decide +kernel
theorem dL_law_346 : decode cL_law 346 = .ok (.if_icmp .ne 7, 3) := by decide +kernel
theorem dL_law_349 : decode cL_law 349 = .ok (.iconst 1, 1) := by decide +kernel
theorem dL_law_350 : decode cL_law 350 = .ok (.goto 4, 3) := by decide +kernel
theorem dL_law_353 : decode cL_law 353 = .ok (.iconst 0, 1) := by decide +kernel
theorem dL_law_354 : decode cL_law 354 = .ok (.aload_n 2, 1) := by decide +kernel
theorem dL_law_355 : decode cL_law 355 = .ok (.bipush 7, 2) := by decide +kernel
theorem dL_law_357 : decode cL_law 357 = .ok (.iaload, 1) := by decide +kernel
theorem dL_law_358 : decode cL_law 358 = .ok (.invokestatic 129, 3) := by decide +kernel
theorem dL_law_361 : decode cL_law 361 = .ok (.ifCond .ne 14, 3) := by decide +kernel
theorem dL_law_364 : decode cL_law 364 = .ok (.aload_n 1, 1) := by decide +kernel
theorem dL_law_365 : decode cL_law 365 = .ok (.invokevirtual 51, 3) := by decide +kernel
theorem dL_law_368 : decode cL_law 368 = .ok (.ifCond .ne 7, 3) := by decide +kernel
theorem dL_law_371 : decode cL_law 371 = .ok (.iconst 1, 1) := by decide +kernel
theorem dL_law_372 : decode cL_law 372 = .ok (.goto 4, 3) := by decide +kernel
theorem dL_law_375 : decode cL_law 375 = .ok (.iconst 0, 1) := by decide +kernel
theorem dL_law_376 : decode cL_law 376 = .ok (.istore 5, 2) := by decide +kernel
theorem dL_law_378 : decode cL_law 378 = .ok (.goto 335, 3) := by decide +kernel
theorem dL_law_381 : decode cL_law 381 = .ok (.iload 9, 2) := by decide +kernel
theorem dL_law_383 : decode cL_law 383 = .ok (.iconst 5, 1) := by decide +kernel
theorem dL_law_384 : decode cL_law 384 = .ok (.if_icmp .ge 158, 3) := by decide +kernel
theorem dL_law_387 : decode cL_law 387 = .ok (.aload_n 2, 1) := by decide +kernel
theorem dL_law_388 : decode cL_law 388 = .ok (.bipush 8, 2) := by decide +kernel
theorem dL_law_390 : decode cL_law 390 = .ok (.iconst 1, 1) := by decide +kernel
theorem dL_law_391 : decode cL_law 391 = .ok (.iload 8, 2) := by decide +kernel
theorem dL_law_393 : decode cL_law 393 = .ok (.iload 8, 2) := by decide +kernel
theorem dL_law_395 : decode cL_law 395 = .ok (.iconst 3, 1) := by decide +kernel
theorem dL_law_396 : decode cL_law 396 = .ok (.irem, 1) := by decide +kernel
theorem dL_law_397 : decode cL_law 397 = .ok (.ifCond .ne 8, 3) := by decide +kernel
theorem dL_law_400 : decode cL_law 400 = .ok (.bipush 8, 2) := by decide +kernel
theorem dL_law_402 : decode cL_law 402 = .ok (.goto 4, 3) := by decide +kernel
theorem dL_law_405 : decode cL_law 405 = .ok (.iconst 5, 1) := by decide +kernel
theorem dL_law_406 : decode cL_law 406 = .ok (.irem, 1) := by decide +kernel
theorem dL_law_407 : decode cL_law 407 = .ok (.iadd, 1) := by decide +kernel
theorem dL_law_408 : decode cL_law 408 = .ok (.iastore, 1) := by decide +kernel
theorem dL_law_409 : decode cL_law 409 = .ok (.aload_n 2, 1) := by decide +kernel
theorem dL_law_410 : decode cL_law 410 = .ok (.bipush 9, 2) := by decide +kernel
theorem dL_law_412 : decode cL_law 412 = .ok (.iload 8, 2) := by decide +kernel
theorem dL_law_414 : decode cL_law 414 = .ok (.iconst 5, 1) := by decide +kernel
theorem dL_law_415 : decode cL_law 415 = .ok (.idiv, 1) := by decide +kernel
theorem dL_law_416 : decode cL_law 416 = .ok (.bipush 101, 2) := by decide +kernel
theorem dL_law_418 : decode cL_law 418 = .ok (.irem, 1) := by decide +kernel
theorem dL_law_419 : decode cL_law 419 = .ok (.iastore, 1) := by decide +kernel
theorem dL_law_420 : decode cL_law 420 = .ok (.aload_n 2, 1) := by decide +kernel
theorem dL_law_421 : decode cL_law 421 = .ok (.bipush 10, 2) := by decide +kernel
theorem dL_law_423 : decode cL_law 423 = .ok (.iload 8, 2) := by decide +kernel
theorem dL_law_425 : decode cL_law 425 = .ok (.sipush 505, 3) := by decide +kernel
theorem dL_law_428 : decode cL_law 428 = .ok (.idiv, 1) := by decide +kernel
theorem dL_law_429 : decode cL_law 429 = .ok (.iload 8, 2) := by decide +kernel
theorem dL_law_431 : decode cL_law 431 = .ok (.iconst 4, 1) := by decide +kernel
theorem dL_law_432 : decode cL_law 432 = .ok (.irem, 1) := by decide +kernel
theorem dL_law_433 : decode cL_law 433 = .ok (.ifCond .ne 9, 3) := by decide +kernel
theorem dL_law_436 : decode cL_law 436 = .ok (.sipush 151, 3) := by decide +kernel
theorem dL_law_439 : decode cL_law 439 = .ok (.goto 5, 3) := by decide +kernel
theorem dL_law_442 : decode cL_law 442 = .ok (.bipush 110, 2) := by decide +kernel
theorem dL_law_444 : decode cL_law 444 = .ok (.irem, 1) := by decide +kernel
theorem dL_law_445 : decode cL_law 445 = .ok (.iastore, 1) := by decide +kernel
theorem dL_law_446 : decode cL_law 446 = .ok (.aload_n 2, 1) := by decide +kernel
theorem dL_law_447 : decode cL_law 447 = .ok (.bipush 11, 2) := by decide +kernel
theorem dL_law_449 : decode cL_law 449 = .ok (.iload 8, 2) := by decide +kernel
theorem dL_law_451 : decode cL_law 451 = .ok (.ldc 152, 2) := by decide +kernel
theorem dL_law_453 : decode cL_law 453 = .ok (.idiv, 1) := by decide +kernel
theorem dL_law_454 : decode cL_law 454 = .ok (.iload 8, 2) := by decide +kernel
theorem dL_law_456 : decode cL_law 456 = .ok (.iconst 3, 1) := by decide +kernel
theorem dL_law_457 : decode cL_law 457 = .ok (.irem, 1) := by decide +kernel
theorem dL_law_458 : decode cL_law 458 = .ok (.ifCond .ne 9, 3) := by decide +kernel
theorem dL_law_461 : decode cL_law 461 = .ok (.sipush 201, 3) := by decide +kernel
theorem dL_law_464 : decode cL_law 464 = .ok (.goto 5, 3) := by decide +kernel
theorem dL_law_467 : decode cL_law 467 = .ok (.bipush 20, 2) := by decide +kernel
theorem dL_law_469 : decode cL_law 469 = .ok (.irem, 1) := by decide +kernel
theorem dL_law_470 : decode cL_law 470 = .ok (.iload 8, 2) := by decide +kernel
theorem dL_law_472 : decode cL_law 472 = .ok (.iconst 3, 1) := by decide +kernel
theorem dL_law_473 : decode cL_law 473 = .ok (.irem, 1) := by decide +kernel
theorem dL_law_474 : decode cL_law 474 = .ok (.ifCond .ne 7, 3) := by decide +kernel
theorem dL_law_477 : decode cL_law 477 = .ok (.iconst 0, 1) := by decide +kernel
theorem dL_law_478 : decode cL_law 478 = .ok (.goto 5, 3) := by decide +kernel
theorem dL_law_481 : decode cL_law 481 = .ok (.bipush 95, 2) := by decide +kernel
theorem dL_law_483 : decode cL_law 483 = .ok (.iadd, 1) := by decide +kernel
theorem dL_law_484 : decode cL_law 484 = .ok (.iastore, 1) := by decide +kernel
theorem dL_law_485 : decode cL_law 485 = .ok (.aload_n 2, 1) := by decide +kernel
theorem dL_law_486 : decode cL_law 486 = .ok (.bipush 12, 2) := by decide +kernel
theorem dL_law_488 : decode cL_law 488 = .ok (.iload 8, 2) := by decide +kernel
theorem dL_law_490 : decode cL_law 490 = .ok (.bipush 9, 2) := by decide +kernel
theorem dL_law_492 : decode cL_law 492 = .ok (.idiv, 1) := by decide +kernel
theorem dL_law_493 : decode cL_law 493 = .ok (.sipush 501, 3) := by decide +kernel
theorem dL_law_496 : decode cL_law 496 = .ok (.irem, 1) := by decide +kernel
theorem dL_law_497 : decode cL_law 497 = .ok (.iastore, 1) := by decide +kernel
theorem dL_law_498 : decode cL_law 498 = .ok (.aload_n 1, 1) := by decide +kernel
theorem dL_law_499 : decode cL_law 499 = .ok (.aload_n 2, 1) := by decide +kernel
theorem dL_law_500 : decode cL_law 500 = .ok (.bipush 8, 2) := by decide +kernel
theorem dL_law_502 : decode cL_law 502 = .ok (.iaload, 1) := by decide +kernel
theorem dL_law_503 : decode cL_law 503 = .ok (.aload_n 2, 1) := by decide +kernel
theorem dL_law_504 : decode cL_law 504 = .ok (.bipush 9, 2) := by decide +kernel
theorem dL_law_506 : decode cL_law 506 = .ok (.iaload, 1) := by decide +kernel
theorem dL_law_507 : decode cL_law 507 = .ok (.aload_n 2, 1) := by decide +kernel
theorem dL_law_508 : decode cL_law 508 = .ok (.bipush 10, 2) := by decide +kernel
theorem dL_law_510 : decode cL_law 510 = .ok (.iaload, 1) := by decide +kernel
theorem dL_law_511 : decode cL_law 511 = .ok (.aload_n 2, 1) := by decide +kernel
theorem dL_law_512 : decode cL_law 512 = .ok (.bipush 11, 2) := by decide +kernel
theorem dL_law_514 : decode cL_law 514 = .ok (.iaload, 1) := by decide +kernel
theorem dL_law_515 : decode cL_law 515 = .ok (.aload_n 2, 1) := by decide +kernel
theorem dL_law_516 : decode cL_law 516 = .ok (.bipush 12, 2) := by decide +kernel
theorem dL_law_518 : decode cL_law 518 = .ok (.iaload, 1) := by decide +kernel
theorem dL_law_519 : decode cL_law 519 = .ok (.invokestatic 132, 3) := by decide +kernel
theorem dL_law_522 : decode cL_law 522 = .ok (.ifCond .ne 14, 3) := by decide +kernel
theorem dL_law_525 : decode cL_law 525 = .ok (.aload_n 1, 1) := by decide +kernel
theorem dL_law_526 : decode cL_law 526 = .ok (.invokevirtual 51, 3) := by decide +kernel
theorem dL_law_529 : decode cL_law 529 = .ok (.ifCond .ne 7, 3) := by decide +kernel
theorem dL_law_532 : decode cL_law 532 = .ok (.iconst 1, 1) := by decide +kernel
theorem dL_law_533 : decode cL_law 533 = .ok (.goto 4, 3) := by decide +kernel
theorem dL_law_536 : decode cL_law 536 = .ok (.iconst 0, 1) := by decide +kernel
theorem dL_law_537 : decode cL_law 537 = .ok (.istore 5, 2) := by decide +kernel
theorem dL_law_539 : decode cL_law 539 = .ok (.goto 174, 3) := by decide +kernel
theorem dL_law_542 : decode cL_law 542 = .ok (.iload 9, 2) := by decide +kernel
theorem dL_law_544 : decode cL_law 544 = .ok (.iconst 5, 1) := by decide +kernel
theorem dL_law_545 : decode cL_law 545 = .ok (.if_icmp .ne 77, 3) := by decide +kernel
theorem dL_law_548 : decode cL_law 548 = .ok (.aload_n 2, 1) := by decide +kernel
theorem dL_law_549 : decode cL_law 549 = .ok (.bipush 13, 2) := by decide +kernel
theorem dL_law_551 : decode cL_law 551 = .ok (.iload 8, 2) := by decide +kernel
theorem dL_law_553 : decode cL_law 553 = .ok (.iconst 2, 1) := by decide +kernel
theorem dL_law_554 : decode cL_law 554 = .ok (.irem, 1) := by decide +kernel
theorem dL_law_555 : decode cL_law 555 = .ok (.iastore, 1) := by decide +kernel
theorem dL_law_556 : decode cL_law 556 = .ok (.aload_n 2, 1) := by decide +kernel
theorem dL_law_557 : decode cL_law 557 = .ok (.bipush 14, 2) := by decide +kernel
theorem dL_law_559 : decode cL_law 559 = .ok (.iload 8, 2) := by decide +kernel
theorem dL_law_561 : decode cL_law 561 = .ok (.iconst 2, 1) := by decide +kernel
theorem dL_law_562 : decode cL_law 562 = .ok (.idiv, 1) := by decide +kernel
theorem dL_law_563 : decode cL_law 563 = .ok (.iconst 2, 1) := by decide +kernel
theorem dL_law_564 : decode cL_law 564 = .ok (.irem, 1) := by decide +kernel
theorem dL_law_565 : decode cL_law 565 = .ok (.iastore, 1) := by decide +kernel
theorem dL_law_566 : decode cL_law 566 = .ok (.aload_n 1, 1) := by decide +kernel
theorem dL_law_567 : decode cL_law 567 = .ok (.iload 8, 2) := by decide +kernel
theorem dL_law_569 : decode cL_law 569 = .ok (.iconst 2, 1) := by decide +kernel
theorem dL_law_570 : decode cL_law 570 = .ok (.irem, 1) := by decide +kernel
theorem dL_law_571 : decode cL_law 571 = .ok (.iconst 1, 1) := by decide +kernel
theorem dL_law_572 : decode cL_law 572 = .ok (.if_icmp .ne 7, 3) := by decide +kernel
theorem dL_law_575 : decode cL_law 575 = .ok (.iconst 1, 1) := by decide +kernel
theorem dL_law_576 : decode cL_law 576 = .ok (.goto 4, 3) := by decide +kernel
theorem dL_law_579 : decode cL_law 579 = .ok (.iconst 0, 1) := by decide +kernel
theorem dL_law_580 : decode cL_law 580 = .ok (.iload 8, 2) := by decide +kernel
theorem dL_law_582 : decode cL_law 582 = .ok (.iconst 2, 1) := by decide +kernel
theorem dL_law_583 : decode cL_law 583 = .ok (.idiv, 1) := by decide +kernel
theorem dL_law_584 : decode cL_law 584 = .ok (.iconst 2, 1) := by decide +kernel
theorem dL_law_585 : decode cL_law 585 = .ok (.irem, 1) := by decide +kernel
theorem dL_law_586 : decode cL_law 586 = .ok (.iconst 1, 1) := by decide +kernel
theorem dL_law_587 : decode cL_law 587 = .ok (.if_icmp .ne 7, 3) := by decide +kernel
theorem dL_law_590 : decode cL_law 590 = .ok (.iconst 1, 1) := by decide +kernel
theorem dL_law_591 : decode cL_law 591 = .ok (.goto 4, 3) := by decide +kernel
theorem dL_law_594 : decode cL_law 594 = .ok (.iconst 0, 1) := by decide +kernel
theorem dL_law_595 : decode cL_law 595 = .ok (.invokevirtual 153, 3) := by decide +kernel
theorem dL_law_598 : decode cL_law 598 = .ok (.aload_n 1, 1) := by decide +kernel
theorem dL_law_599 : decode cL_law 599 = .ok (.invokevirtual 51, 3) := by decide +kernel
theorem dL_law_602 : decode cL_law 602 = .ok (.ifCond .ne 14, 3) := by decide +kernel
theorem dL_law_605 : decode cL_law 605 = .ok (.aload_n 1, 1) := by decide +kernel
theorem dL_law_606 : decode cL_law 606 = .ok (.invokevirtual 60, 3) := by decide +kernel
theorem dL_law_609 : decode cL_law 609 = .ok (.ifCond .ne 7, 3) := by decide +kernel
theorem dL_law_612 : decode cL_law 612 = .ok (.iconst 1, 1) := by decide +kernel
theorem dL_law_613 : decode cL_law 613 = .ok (.goto 4, 3) := by decide +kernel
theorem dL_law_616 : decode cL_law 616 = .ok (.iconst 0, 1) := by decide +kernel
theorem dL_law_617 : decode cL_law 617 = .ok (.istore 5, 2) := by decide +kernel
theorem dL_law_619 : decode cL_law 619 = .ok (.goto 94, 3) := by decide +kernel
theorem dL_law_622 : decode cL_law 622 = .ok (.iload 9, 2) := by decide +kernel
theorem dL_law_624 : decode cL_law 624 = .ok (.bipush 13, 2) := by decide +kernel
theorem dL_law_626 : decode cL_law 626 = .ok (.if_icmp .ge 26, 3) := by decide +kernel
theorem dL_law_629 : decode cL_law 629 = .ok (.aload_n 1, 1) := by decide +kernel
theorem dL_law_630 : decode cL_law 630 = .ok (.aload_n 2, 1) := by decide +kernel
theorem dL_law_631 : decode cL_law 631 = .ok (.aload_n 3, 1) := by decide +kernel
theorem dL_law_632 : decode cL_law 632 = .ok (.iload 8, 2) := by decide +kernel
theorem dL_law_634 : decode cL_law 634 = .ok (.iconst 3, 1) := by decide +kernel
theorem dL_law_635 : decode cL_law 635 = .ok (.irem, 1) := by decide +kernel
theorem dL_law_636 : decode cL_law 636 = .ok (.ifCond .le 7, 3) := by decide +kernel
theorem dL_law_639 : decode cL_law 639 = .ok (.iconst 1, 1) := by decide +kernel
theorem dL_law_640 : decode cL_law 640 = .ok (.goto 4, 3) := by decide +kernel
theorem dL_law_643 : decode cL_law 643 = .ok (.iconst 0, 1) := by decide +kernel
theorem dL_law_644 : decode cL_law 644 = .ok (.invokestatic 157, 3) := by decide +kernel
theorem dL_law_647 : decode cL_law 647 = .ok (.istore 5, 2) := by decide +kernel
theorem dL_law_649 : decode cL_law 649 = .ok (.goto 64, 3) := by decide +kernel
theorem dL_law_652 : decode cL_law 652 = .ok (.aload_n 1, 1) := by decide +kernel
theorem dL_law_653 : decode cL_law 653 = .ok (.invokevirtual 51, 3) := by decide +kernel
theorem dL_law_656 : decode cL_law 656 = .ok (.istore 10, 2) := by decide +kernel
theorem dL_law_658 : decode cL_law 658 = .ok (.aload_n 1, 1) := by decide +kernel
theorem dL_law_659 : decode cL_law 659 = .ok (.iconst 1, 1) := by decide +kernel
theorem dL_law_660 : decode cL_law 660 = .ok (.iconst 0, 1) := by decide +kernel
theorem dL_law_661 : decode cL_law 661 = .ok (.invokestatic 118, 3) := by decide +kernel
theorem dL_law_664 : decode cL_law 664 = .ok (.iload 10, 2) := by decide +kernel
theorem dL_law_666 : decode cL_law 666 = .ok (.ifCond .ne 9, 3) := by decide +kernel
theorem dL_law_669 : decode cL_law 669 = .ok (.sipush (-963), 3) := by decide +kernel
theorem dL_law_672 : decode cL_law 672 = .ok (.goto 9, 3) := by decide +kernel
theorem dL_law_675 : decode cL_law 675 = .ok (.aload_n 3, 1) := by decide +kernel
theorem dL_law_676 : decode cL_law 676 = .ok (.iload 10, 2) := by decide +kernel
theorem dL_law_678 : decode cL_law 678 = .ok (.iconst 1, 1) := by decide +kernel
theorem dL_law_679 : decode cL_law 679 = .ok (.isub, 1) := by decide +kernel
theorem dL_law_680 : decode cL_law 680 = .ok (.iaload, 1) := by decide +kernel
theorem dL_law_681 : decode cL_law 681 = .ok (.i2l, 1) := by decide +kernel
theorem dL_law_682 : decode cL_law 682 = .ok (.lcmp, 1) := by decide +kernel
theorem dL_law_683 : decode cL_law 683 = .ok (.ifCond .ne 27, 3) := by decide +kernel
theorem dL_law_686 : decode cL_law 686 = .ok (.aload_n 1, 1) := by decide +kernel
theorem dL_law_687 : decode cL_law 687 = .ok (.invokevirtual 51, 3) := by decide +kernel
theorem dL_law_690 : decode cL_law 690 = .ok (.iload 10, 2) := by decide +kernel
theorem dL_law_692 : decode cL_law 692 = .ok (.ifCond .ne 7, 3) := by decide +kernel
theorem dL_law_695 : decode cL_law 695 = .ok (.iconst 0, 1) := by decide +kernel
theorem dL_law_696 : decode cL_law 696 = .ok (.goto 7, 3) := by decide +kernel
theorem dL_law_699 : decode cL_law 699 = .ok (.iload 10, 2) := by decide +kernel
theorem dL_law_701 : decode cL_law 701 = .ok (.iconst 1, 1) := by decide +kernel
theorem dL_law_702 : decode cL_law 702 = .ok (.isub, 1) := by decide +kernel
theorem dL_law_703 : decode cL_law 703 = .ok (.if_icmp .ne 7, 3) := by decide +kernel
theorem dL_law_706 : decode cL_law 706 = .ok (.iconst 1, 1) := by decide +kernel
theorem dL_law_707 : decode cL_law 707 = .ok (.goto 4, 3) := by decide +kernel
theorem dL_law_710 : decode cL_law 710 = .ok (.iconst 0, 1) := by decide +kernel
theorem dL_law_711 : decode cL_law 711 = .ok (.istore 5, 2) := by decide +kernel
theorem dL_law_713 : decode cL_law 713 = .ok (.iload 5, 2) := by decide +kernel
theorem dL_law_715 : decode cL_law 715 = .ok (.ifCond .eq 94, 3) := by decide +kernel
theorem dL_law_718 : decode cL_law 718 = .ok (.aload_n 1, 1) := by decide +kernel
theorem dL_law_719 : decode cL_law 719 = .ok (.aload_n 2, 1) := by decide +kernel
theorem dL_law_720 : decode cL_law 720 = .ok (.aload_n 3, 1) := by decide +kernel
theorem dL_law_721 : decode cL_law 721 = .ok (.iload 6, 2) := by decide +kernel
theorem dL_law_723 : decode cL_law 723 = .ok (.bipush 8, 2) := by decide +kernel
theorem dL_law_725 : decode cL_law 725 = .ok (.irem, 1) := by decide +kernel
theorem dL_law_726 : decode cL_law 726 = .ok (.ifCond .ne 7, 3) := by decide +kernel
theorem dL_law_729 : decode cL_law 729 = .ok (.iconst 1, 1) := by decide +kernel
theorem dL_law_730 : decode cL_law 730 = .ok (.goto 4, 3) := by decide +kernel
theorem dL_law_733 : decode cL_law 733 = .ok (.iconst 0, 1) := by decide +kernel
theorem dL_law_734 : decode cL_law 734 = .ok (.invokestatic 136, 3) := by decide +kernel
theorem dL_law_737 : decode cL_law 737 = .ok (.ifCond .eq 72, 3) := by decide +kernel
theorem dL_law_740 : decode cL_law 740 = .ok (.iload 6, 2) := by decide +kernel
theorem dL_law_742 : decode cL_law 742 = .ok (.bipush 16, 2) := by decide +kernel
theorem dL_law_744 : decode cL_law 744 = .ok (.irem, 1) := by decide +kernel
theorem dL_law_745 : decode cL_law 745 = .ok (.ifCond .le 16, 3) := by decide +kernel
theorem dL_law_748 : decode cL_law 748 = .ok (.aload_n 2, 1) := by decide +kernel
theorem dL_law_749 : decode cL_law 749 = .ok (.bipush 8, 2) := by decide +kernel
theorem dL_law_751 : decode cL_law 751 = .ok (.iaload, 1) := by decide +kernel
theorem dL_law_752 : decode cL_law 752 = .ok (.aload_n 1, 1) := by decide +kernel
theorem dL_law_753 : decode cL_law 753 = .ok (.invokevirtual 51, 3) := by decide +kernel
theorem dL_law_756 : decode cL_law 756 = .ok (.isub, 1) := by decide +kernel
theorem dL_law_757 : decode cL_law 757 = .ok (.iconst 4, 1) := by decide +kernel
theorem dL_law_758 : decode cL_law 758 = .ok (.if_icmp .gt 27, 3) := by decide +kernel
theorem dL_law_761 : decode cL_law 761 = .ok (.iload 6, 2) := by decide +kernel
theorem dL_law_763 : decode cL_law 763 = .ok (.iconst 4, 1) := by decide +kernel
theorem dL_law_764 : decode cL_law 764 = .ok (.irem, 1) := by decide +kernel
theorem dL_law_765 : decode cL_law 765 = .ok (.ifCond .gt 20, 3) := by decide +kernel
theorem dL_law_768 : decode cL_law 768 = .ok (.aload_n 1, 1) := by decide +kernel
theorem dL_law_769 : decode cL_law 769 = .ok (.invokevirtual 63, 3) := by decide +kernel
theorem dL_law_772 : decode cL_law 772 = .ok (.ifCond .ne 13, 3) := by decide +kernel
theorem dL_law_775 : decode cL_law 775 = .ok (.aload_n 1, 1) := by decide +kernel
theorem dL_law_776 : decode cL_law 776 = .ok (.aload_n 2, 1) := by decide +kernel
theorem dL_law_777 : decode cL_law 777 = .ok (.aload 4, 2) := by decide +kernel
theorem dL_law_779 : decode cL_law 779 = .ok (.invokestatic 140, 3) := by decide +kernel
theorem dL_law_782 : decode cL_law 782 = .ok (.ifCond .eq 27, 3) := by decide +kernel
theorem dL_law_785 : decode cL_law 785 = .ok (.iload 6, 2) := by decide +kernel
theorem dL_law_787 : decode cL_law 787 = .ok (.bipush 15, 2) := by decide +kernel
theorem dL_law_789 : decode cL_law 789 = .ok (.irem, 1) := by decide +kernel
theorem dL_law_790 : decode cL_law 790 = .ok (.ifCond .gt 15, 3) := by decide +kernel
theorem dL_law_793 : decode cL_law 793 = .ok (.aload_n 1, 1) := by decide +kernel
theorem dL_law_794 : decode cL_law 794 = .ok (.aload_n 2, 1) := by decide +kernel
theorem dL_law_795 : decode cL_law 795 = .ok (.iload 7, 2) := by decide +kernel
theorem dL_law_797 : decode cL_law 797 = .ok (.iconst 3, 1) := by decide +kernel
theorem dL_law_798 : decode cL_law 798 = .ok (.idiv, 1) := by decide +kernel
theorem dL_law_799 : decode cL_law 799 = .ok (.invokestatic 144, 3) := by decide +kernel
theorem dL_law_802 : decode cL_law 802 = .ok (.ifCond .eq 7, 3) := by decide +kernel
theorem dL_law_805 : decode cL_law 805 = .ok (.iconst 1, 1) := by decide +kernel
theorem dL_law_806 : decode cL_law 806 = .ok (.goto 4, 3) := by decide +kernel
theorem dL_law_809 : decode cL_law 809 = .ok (.iconst 0, 1) := by decide +kernel
theorem dL_law_810 : decode cL_law 810 = .ok (.istore 5, 2) := by decide +kernel
theorem dL_law_812 : decode cL_law 812 = .ok (.iinc 6 1, 3) := by decide +kernel
theorem dL_law_815 : decode cL_law 815 = .ok (.goto (-677), 3) := by decide +kernel
theorem dL_law_818 : decode cL_law 818 = .ok (.iload 5, 2) := by decide +kernel
theorem dL_law_820 : decode cL_law 820 = .ok (.ireturn, 1) := by decide +kernel
abbrev vwCl : List vw_C := [(RX0, TX0, 3), (RX1, TX1, 8), (RX2, TX2, 11), (RX3, TX3, 8), (RX4, TX4, 9), (RX5, TX5, 5)]

