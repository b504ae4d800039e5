theorem dJ9_max_7cf53_0 : decode cJ9_max_7cf53 0 = .ok (.iload_n 0, 1) := by decide +kernel
theorem dJ9_max_7cf53_1 : decode cJ9_max_7cf53 1 = .ok (.iload_n 1, 1) := by decide +kernel
theorem dJ9_max_7cf53_2 : decode cJ9_max_7cf53 2 = .ok (.if_icmp .lt 7, 3) := by decide +kernel
theorem dJ9_max_7cf53_5 : decode cJ9_max_7cf53 5 = .ok (.iload_n 0, 1) := by decide +kernel
theorem dJ9_max_7cf53_6 : decode cJ9_max_7cf53 6 = .ok (.goto 4, 3) := by decide +kernel
theorem dJ9_max_7cf53_9 : decode cJ9_max_7cf53 9 = .ok (.iload_n 1, 1) := by decide +kernel
theorem dJ9_max_7cf53_10 : decode cJ9_max_7cf53 10 = .ok (.ireturn, 1) := by decide +kernel
theorem dJ9_min_7cf53_0 : decode cJ9_min_7cf53 0 = .ok (.iload_n 0, 1) := by decide +kernel
theorem dJ9_min_7cf53_1 : decode cJ9_min_7cf53 1 = .ok (.iload_n 1, 1) := by decide +kernel
theorem dJ9_min_7cf53_2 : decode cJ9_min_7cf53 2 = .ok (.if_icmp .gt 7, 3) := by decide +kernel
theorem dJ9_min_7cf53_5 : decode cJ9_min_7cf53 5 = .ok (.iload_n 0, 1) := by decide +kernel
theorem dJ9_min_7cf53_6 : decode cJ9_min_7cf53 6 = .ok (.goto 4, 3) := by decide +kernel
theorem dJ9_min_7cf53_9 : decode cJ9_min_7cf53 9 = .ok (.iload_n 1, 1) := by decide +kernel
theorem dJ9_min_7cf53_10 : decode cJ9_min_7cf53 10 = .ok (.ireturn, 1) := by decide +kernel
theorem dL_below_0 : decode cL_below 0 = .ok (.iload_n 0, 1) := by decide +kernel
theorem dL_below_1 : decode cL_below 1 = .ok (.ldc 7, 2) := by decide +kernel
theorem dL_below_3 : decode cL_below 3 = .ok (.iand, 1) := by decide +kernel
theorem dL_below_4 : decode cL_below 4 = .ok (.iload_n 1, 1) := by decide +kernel
theorem dL_below_5 : decode cL_below 5 = .ok (.irem, 1) := by decide +kernel
theorem dL_below_6 : decode cL_below 6 = .ok (.ireturn, 1) := by decide +kernel
theorem dL_cell_0 : decode cL_cell 0 = .ok (.iload_n 1, 1) := by decide +kernel
theorem dL_cell_1 : decode cL_cell 1 = .ok (.aload_n 0, 1) := by decide +kernel
theorem dL_cell_2 : decode cL_cell 2 = .ok (.arraylength, 1) := by decide +kernel
theorem dL_cell_3 : decode cL_cell 3 = .ok (.if_icmp .ge 9, 3) := by decide +kernel
theorem dL_cell_6 : decode cL_cell 6 = .ok (.aload_n 0, 1) := by decide +kernel
theorem dL_cell_7 : decode cL_cell 7 = .ok (.iload_n 1, 1) := by decide +kernel
theorem dL_cell_8 : decode cL_cell 8 = .ok (.iaload, 1) := by decide +kernel
theorem dL_cell_9 : decode cL_cell 9 = .ok (.goto 9, 3) := by decide +kernel
theorem dL_cell_12 : decode cL_cell 12 = .ok (.ldc 8, 2) := by decide +kernel
theorem dL_cell_14 : decode cL_cell 14 = .ok (.iload_n 1, 1) := by decide +kernel
theorem dL_cell_15 : decode cL_cell 15 = .ok (.iconst 3, 1) := by decide +kernel
theorem dL_cell_16 : decode cL_cell 16 = .ok (.iadd, 1) := by decide +kernel
theorem dL_cell_17 : decode cL_cell 17 = .ok (.imul, 1) := by decide +kernel
theorem dL_cell_18 : decode cL_cell 18 = .ok (.ireturn, 1) := by decide +kernel
set_option maxRecDepth 20000 in
theorem ggL_act_L_below : GoodIn wsL_act wsL_below := goodIn_r _ [8, 9] (by decide +kernel) (by decide +kernel)
set_option maxRecDepth 20000 in
theorem gL_act_L_below : GoodIn wsL_act (va_wsS RL 19 yL_below wsL_below) := goodIn_app (goodIn_of _ (by decide +kernel)) ggL_act_L_below
set_option maxRecDepth 20000 in
theorem ggL_act_X0_turn : GoodIn wsL_act wsX0_turn := goodIn_ca (goodIn_r _ [14, 15, 16, 17, 18, 19, 20, 13, 21, 22, 23, 24, 25, 26, 27, 28, 29, 30, 31, 32, 33, 34, 35, 36, 37, 38, 39, 40, 41, 42, 43, 44, 45, 46, 47, 48, 49, 50, 51, 52, 53, 54, 55, 56, 57, 58, 59, 60, 61, 62, 63, 64, 65, 66, 146, 147, 148, 149, 150, 151, 152, 153, 154, 155, 156, 157] (by decide +kernel) (by decide +kernel)) (goodIn_sub (fun _ h => List.mem_cons_of_mem _ (List.mem_append_left _ (List.mem_append_left _ (List.mem_append_right _ h)))) (by decide +kernel))
set_option maxRecDepth 20000 in
theorem gL_act_X0_turn : GoodIn wsL_act (wsV RL 25 RX0 yX0_turn wsX0_turn) := goodIn_app (goodIn_of _ (by decide +kernel)) ggL_act_X0_turn
set_option maxRecDepth 20000 in
theorem ggL_act_X0_cut : GoodIn wsL_act wsX0_cut := goodIn_ca (goodIn_ca (goodIn_r _ [70, 35, 71, 72, 73, 13, 74, 75, 76, 32, 77, 78, 79, 80, 81, 18, 19, 20, 21, 22, 23, 24, 25, 26, 27, 17, 28, 29, 30, 31, 33, 34, 36, 37, 38, 39, 40, 41, 42, 43, 44, 45, 46, 47, 48, 49, 50, 51, 52, 53, 54, 55, 56, 57, 58, 59, 60, 61, 62, 63, 64, 65, 66, 146, 147, 148, 149, 150, 151, 152, 153, 154, 155, 156, 157] (by decide +kernel) (by decide +kernel)) (goodIn_sub (fun _ h => List.mem_cons_of_mem _ (List.mem_append_left _ (List.mem_append_right _ h))) (by decide +kernel))) (goodIn_sub (fun _ h => List.mem_cons_of_mem _ (List.mem_append_right _ h)) (by decide +kernel))
set_option maxRecDepth 20000 in
theorem gL_act_X0_cut : GoodIn wsL_act (wsV RL 31 RX0 yX0_cut wsX0_cut) := goodIn_app (goodIn_of _ (by decide +kernel)) ggL_act_X0_cut
set_option maxRecDepth 20000 in
theorem ggL_act_X0_knot : GoodIn wsL_act wsX0_knot := goodIn_ca (goodIn_r _ [85, 33, 71, 72, 73, 13, 74, 75, 76, 32, 18, 19, 20, 21, 22, 23, 24, 25, 26, 27, 17, 28, 29, 30, 31, 34, 35, 36, 37, 38, 39, 40, 41, 42, 43, 44, 45, 46, 47, 48, 49, 50, 51, 52, 53, 54, 55, 56, 57, 58, 59, 60, 61, 62, 63, 64, 65, 66, 146, 147, 148, 149, 150, 151, 152, 153, 154, 155, 156, 157] (by decide +kernel) (by decide +kernel)) (goodIn_sub (fun _ h => List.mem_cons_of_mem _ (List.mem_append_left _ (List.mem_append_right _ h))) (by decide +kernel))
set_option maxRecDepth 20000 in
theorem gL_act_X0_knot : GoodIn wsL_act (wsV RL 34 RX0 yX0_knot wsX0_knot) := goodIn_app (goodIn_of _ (by decide +kernel)) ggL_act_X0_knot
set_option maxRecDepth 20000 in
theorem ggL_act_X1_ways : GoodIn wsL_act wsX1_ways := goodIn_r _ [90, 91, 92, 4, 93, 94, 144, 145] (by decide +kernel) (by decide +kernel)
set_option maxRecDepth 20000 in
theorem gL_act_X1_ways : GoodIn wsL_act (wsV RL 38 RX1 yX1_ways wsX1_ways) := goodIn_app (goodIn_of _ (by decide +kernel)) ggL_act_X1_ways
set_option maxRecDepth 20000 in
theorem ggL_act_X1_room : GoodIn wsL_act wsX1_room := goodIn_r _ [98, 94, 93, 99, 100, 101, 89, 102, 103, 104, 91, 105, 106, 107, 108, 109, 110, 111, 112, 113, 114, 115, 116, 117, 87, 88, 90, 92, 4, 144, 145] (by decide +kernel) (by decide +kernel)
set_option maxRecDepth 20000 in
theorem gL_act_X1_room : GoodIn wsL_act (wsV RL 42 RX1 yX1_room wsX1_room) := goodIn_app (goodIn_of _ (by decide +kernel)) ggL_act_X1_room
set_option maxRecDepth 20000 in
theorem ggL_act_X0_tighten : GoodIn wsL_act wsX0_tighten := goodIn_r _ [121, 32, 33, 37, 38, 39, 13, 40, 23, 122, 123, 124, 125, 35, 36, 34, 126, 127, 128, 129, 45, 130, 131, 57, 132, 59, 60, 61, 62, 50, 18, 19, 20, 21, 22, 24, 25, 26, 27, 17, 28, 29, 30, 31, 41, 42, 43, 44, 46, 47, 48, 49, 51, 52, 53, 54, 55, 56, 58, 63, 64, 65, 66, 146, 147, 148, 149, 150, 151, 152, 153, 154, 155, 156, 157] (by decide +kernel) (by decide +kernel)
set_option maxRecDepth 20000 in
theorem gL_act_X0_tighten : GoodIn wsL_act (wsV RL 46 RX0 yX0_tighten wsX0_tighten) := goodIn_app (goodIn_of _ (by decide +kernel)) ggL_act_X0_tighten
set_option maxRecDepth 20000 in
theorem ggL_act_X0_tie : GoodIn wsL_act wsX0_tie := goodIn_ca (goodIn_ca (goodIn_ca (goodIn_r _ [136, 15, 16, 32, 36, 34, 35, 33, 137, 138, 139, 13, 140, 75, 76, 17, 141, 142, 143, 80, 81, 77, 78, 79, 18, 19, 20, 21, 22, 23, 24, 25, 26, 27, 28, 29, 30, 31, 37, 38, 39, 40, 41, 42, 43, 44, 45, 46, 47, 48, 49, 50, 51, 52, 53, 54, 55, 56, 57, 58, 59, 60, 61, 62, 63, 64, 65, 66, 146, 147, 148, 149, 150, 151, 152, 153, 154, 155, 156, 157] (by decide +kernel) (by decide +kernel)) (goodIn_sub (fun _ h => List.mem_cons_of_mem _ (List.mem_append_left _ (List.mem_append_left _ (List.mem_append_right _ h)))) (by decide +kernel))) (goodIn_sub (fun _ h => List.mem_cons_of_mem _ (List.mem_append_left _ (List.mem_append_right _ h))) (by decide +kernel))) (goodIn_sub (fun _ h => List.mem_cons_of_mem _ (List.mem_append_right _ h)) (by decide +kernel))
set_option maxRecDepth 20000 in
theorem gL_act_X0_tie : GoodIn wsL_act (wsV RL 51 RX0 yX0_tie wsX0_tie) := goodIn_app (goodIn_of _ (by decide +kernel)) ggL_act_X0_tie
theorem dL_act_0 : decode cL_act 0 = .ok (.aload_n 1, 1) := by decide +kernel
theorem dL_act_1 : decode cL_act 1 = .ok (.getfield 9, 3) := by decide +kernel
theorem dL_act_4 : decode cL_act 4 = .ok (.istore_n 3, 1) := by decide +kernel
theorem dL_act_5 : decode cL_act 5 = .ok (.aload_n 1, 1) := by decide +kernel
theorem dL_act_6 : decode cL_act 6 = .ok (.getfield 15, 3) := by decide +kernel
theorem dL_act_9 : decode cL_act 9 = .ok (.arraylength, 1) := by decide +kernel
theorem dL_act_10 : decode cL_act 10 = .ok (.istore 4, 2) := by decide +kernel
theorem dL_act_12 : decode cL_act 12 = .ok (.iload 4, 2) := by decide +kernel
theorem dL_act_14 : decode cL_act 14 = .ok (.ifCond .ne 7, 3) := by decide +kernel
theorem dL_act_17 : decode cL_act 17 = .ok (.iconst 0, 1) := by decide +kernel
theorem dL_act_18 : decode cL_act 18 = .ok (.goto 11, 3) := by decide +kernel
theorem dL_act_21 : decode cL_act 21 = .ok (.iload_n 2, 1) := by decide +kernel
theorem dL_act_22 : decode cL_act 22 = .ok (.iconst 1, 1) := by decide +kernel
theorem dL_act_23 : decode cL_act 23 = .ok (.ishr, 1) := by decide +kernel
theorem dL_act_24 : decode cL_act 24 = .ok (.iload 4, 2) := by decide +kernel
theorem dL_act_26 : decode cL_act 26 = .ok (.invokestatic 19, 3) := by decide +kernel
theorem dL_act_29 : decode cL_act 29 = .ok (.istore 5, 2) := by decide +kernel
theorem dL_act_31 : decode cL_act 31 = .ok (.iload_n 2, 1) := by decide +kernel
theorem dL_act_32 : decode cL_act 32 = .ok (.iconst 3, 1) := by decide +kernel
theorem dL_act_33 : decode cL_act 33 = .ok (.ishr, 1) := by decide +kernel
theorem dL_act_34 : decode cL_act 34 = .ok (.bipush 120, 2) := by decide +kernel
theorem dL_act_36 : decode cL_act 36 = .ok (.invokestatic 19, 3) := by decide +kernel
theorem dL_act_39 : decode cL_act 39 = .ok (.iload_n 2, 1) := by decide +kernel
theorem dL_act_40 : decode cL_act 40 = .ok (.iconst 2, 1) := by decide +kernel
theorem dL_act_41 : decode cL_act 41 = .ok (.ishr, 1) := by decide +kernel
theorem dL_act_42 : decode cL_act 42 = .ok (.iconst 4, 1) := by decide +kernel
theorem dL_act_43 : decode cL_act 43 = .ok (.invokestatic 19, 3) := by decide +kernel
theorem dL_act_46 : decode cL_act 46 = .ok (.ifCond .ne 8, 3) := by decide +kernel
theorem dL_act_49 : decode cL_act 49 = .ok (.bipush 40, 2) := by decide +kernel
theorem dL_act_51 : decode cL_act 51 = .ok (.goto 5, 3) := by decide +kernel
theorem dL_act_54 : decode cL_act 54 = .ok (.bipush 15, 2) := by decide +kernel
theorem dL_act_56 : decode cL_act 56 = .ok (.isub, 1) := by decide +kernel
theorem dL_act_57 : decode cL_act 57 = .ok (.istore 6, 2) := by decide +kernel
theorem dL_act_59 : decode cL_act 59 = .ok (.iload 6, 2) := by decide +kernel
theorem dL_act_61 : decode cL_act 61 = .ok (.bipush 99, 2) := by decide +kernel
theorem dL_act_63 : decode cL_act 63 = .ok (.if_icmp .le 7, 3) := by decide +kernel
theorem dL_act_66 : decode cL_act 66 = .ok (.bipush 99, 2) := by decide +kernel
theorem dL_act_68 : decode cL_act 68 = .ok (.istore 6, 2) := by decide +kernel
theorem dL_act_70 : decode cL_act 70 = .ok (.iload_n 2, 1) := by decide +kernel
theorem dL_act_71 : decode cL_act 71 = .ok (.bipush 9, 2) := by decide +kernel
theorem dL_act_73 : decode cL_act 73 = .ok (.ishr, 1) := by decide +kernel
theorem dL_act_74 : decode cL_act 74 = .ok (.bipush 16, 2) := by decide +kernel
theorem dL_act_76 : decode cL_act 76 = .ok (.invokestatic 19, 3) := by decide +kernel
theorem dL_act_79 : decode cL_act 79 = .ok (.tableswitch 279 0 5 #[37, 37, 69, 117, 117, 177], 37) := by decide +kernel
theorem dL_act_116 : decode cL_act 116 = .ok (.iload_n 3, 1) := by decide +kernel
theorem dL_act_117 : decode cL_act 117 = .ok (.bipush 12, 2) := by decide +kernel
theorem dL_act_119 : decode cL_act 119 = .ok (.if_icmp .ne 5, 3) := by decide +kernel
theorem dL_act_122 : decode cL_act 122 = .ok (.iconst 1, 1) := by decide +kernel
theorem dL_act_123 : decode cL_act 123 = .ok (.ireturn, 1) := by decide +kernel
theorem dL_act_124 : decode cL_act 124 = .ok (.aload_n 1, 1) := by decide +kernel
theorem dL_act_125 : decode cL_act 125 = .ok (.dup, 1) := by decide +kernel
theorem dL_act_126 : decode cL_act 126 = .ok (.getfield 9, 3) := by decide +kernel
theorem dL_act_129 : decode cL_act 129 = .ok (.iconst 1, 1) := by decide +kernel
theorem dL_act_130 : decode cL_act 130 = .ok (.iadd, 1) := by decide +kernel
theorem dL_act_131 : decode cL_act 131 = .ok (.putfield 9, 3) := by decide +kernel
theorem dL_act_134 : decode cL_act 134 = .ok (.aload_n 0, 1) := by decide +kernel
theorem dL_act_135 : decode cL_act 135 = .ok (.invokevirtual 25, 3) := by decide +kernel
theorem dL_act_138 : decode cL_act 138 = .ok (.iload_n 3, 1) := by decide +kernel
theorem dL_act_139 : decode cL_act 139 = .ok (.if_icmp .ne 7, 3) := by decide +kernel
theorem dL_act_142 : decode cL_act 142 = .ok (.iconst 1, 1) := by decide +kernel
theorem dL_act_143 : decode cL_act 143 = .ok (.goto 4, 3) := by decide +kernel
theorem dL_act_146 : decode cL_act 146 = .ok (.iconst 0, 1) := by decide +kernel
theorem dL_act_147 : decode cL_act 147 = .ok (.ireturn, 1) := by decide +kernel
theorem dL_act_148 : decode cL_act 148 = .ok (.iload 4, 2) := by decide +kernel
theorem dL_act_150 : decode cL_act 150 = .ok (.ifCond .ne 5, 3) := by decide +kernel
theorem dL_act_153 : decode cL_act 153 = .ok (.iconst 1, 1) := by decide +kernel
theorem dL_act_154 : decode cL_act 154 = .ok (.ireturn, 1) := by decide +kernel
theorem dL_act_155 : decode cL_act 155 = .ok (.aload_n 1, 1) := by decide +kernel
theorem dL_act_156 : decode cL_act 156 = .ok (.getfield 15, 3) := by decide +kernel
theorem dL_act_159 : decode cL_act 159 = .ok (.iload 5, 2) := by decide +kernel
theorem dL_act_161 : decode cL_act 161 = .ok (.aaload, 1) := by decide +kernel
theorem dL_act_162 : decode cL_act 162 = .ok (.iconst 2, 1) := by decide +kernel
theorem dL_act_163 : decode cL_act 163 = .ok (.iaload, 1) := by decide +kernel
theorem dL_act_164 : decode cL_act 164 = .ok (.istore 7, 2) := by decide +kernel
theorem dL_act_166 : decode cL_act 166 = .ok (.aload_n 1, 1) := by decide +kernel
theorem dL_act_167 : decode cL_act 167 = .ok (.getfield 15, 3) := by decide +kernel
theorem dL_act_170 : decode cL_act 170 = .ok (.iload 5, 2) := by decide +kernel
theorem dL_act_172 : decode cL_act 172 = .ok (.aaload, 1) := by decide +kernel
theorem dL_act_173 : decode cL_act 173 = .ok (.iconst 2, 1) := by decide +kernel
theorem dL_act_174 : decode cL_act 174 = .ok (.iload 6, 2) := by decide +kernel
theorem dL_act_176 : decode cL_act 176 = .ok (.iastore, 1) := by decide +kernel
theorem dL_act_177 : decode cL_act 177 = .ok (.aload_n 0, 1) := by decide +kernel
theorem dL_act_178 : decode cL_act 178 = .ok (.iload 5, 2) := by decide +kernel
theorem dL_act_180 : decode cL_act 180 = .ok (.iload 6, 2) := by decide +kernel
theorem dL_act_182 : decode cL_act 182 = .ok (.invokevirtual 31, 3) := by decide +kernel
theorem dL_act_185 : decode cL_act 185 = .ok (.iload 7, 2) := by decide +kernel
theorem dL_act_187 : decode cL_act 187 = .ok (.if_icmp .ne 7, 3) := by decide +kernel
theorem dL_act_190 : decode cL_act 190 = .ok (.iconst 1, 1) := by decide +kernel
theorem dL_act_191 : decode cL_act 191 = .ok (.goto 4, 3) := by decide +kernel
theorem dL_act_194 : decode cL_act 194 = .ok (.iconst 0, 1) := by decide +kernel
theorem dL_act_195 : decode cL_act 195 = .ok (.ireturn, 1) := by decide +kernel
theorem dL_act_196 : decode cL_act 196 = .ok (.iload 4, 2) := by decide +kernel
theorem dL_act_198 : decode cL_act 198 = .ok (.ifCond .ne 5, 3) := by decide +kernel
theorem dL_act_201 : decode cL_act 201 = .ok (.iconst 1, 1) := by decide +kernel
theorem dL_act_202 : decode cL_act 202 = .ok (.ireturn, 1) := by decide +kernel
theorem dL_act_203 : decode cL_act 203 = .ok (.aload_n 1, 1) := by decide +kernel
theorem dL_act_204 : decode cL_act 204 = .ok (.getfield 15, 3) := by decide +kernel
theorem dL_act_207 : decode cL_act 207 = .ok (.iload 5, 2) := by decide +kernel
theorem dL_act_209 : decode cL_act 209 = .ok (.aaload, 1) := by decide +kernel
theorem dL_act_210 : decode cL_act 210 = .ok (.iconst 3, 1) := by decide +kernel
theorem dL_act_211 : decode cL_act 211 = .ok (.iconst 1, 1) := by decide +kernel
theorem dL_act_212 : decode cL_act 212 = .ok (.aload_n 1, 1) := by decide +kernel
theorem dL_act_213 : decode cL_act 213 = .ok (.getfield 15, 3) := by decide +kernel
theorem dL_act_216 : decode cL_act 216 = .ok (.iload 5, 2) := by decide +kernel
theorem dL_act_218 : decode cL_act 218 = .ok (.aaload, 1) := by decide +kernel
theorem dL_act_219 : decode cL_act 219 = .ok (.iconst 3, 1) := by decide +kernel
theorem dL_act_220 : decode cL_act 220 = .ok (.iaload, 1) := by decide +kernel
theorem dL_act_221 : decode cL_act 221 = .ok (.isub, 1) := by decide +kernel
theorem dL_act_222 : decode cL_act 222 = .ok (.iastore, 1) := by decide +kernel
theorem dL_act_223 : decode cL_act 223 = .ok (.aload_n 0, 1) := by decide +kernel
theorem dL_act_224 : decode cL_act 224 = .ok (.iload 5, 2) := by decide +kernel
theorem dL_act_226 : decode cL_act 226 = .ok (.invokevirtual 34, 3) := by decide +kernel
theorem dL_act_229 : decode cL_act 229 = .ok (.aload_n 1, 1) := by decide +kernel
theorem dL_act_230 : decode cL_act 230 = .ok (.getfield 15, 3) := by decide +kernel
theorem dL_act_233 : decode cL_act 233 = .ok (.iload 5, 2) := by decide +kernel
theorem dL_act_235 : decode cL_act 235 = .ok (.aaload, 1) := by decide +kernel
theorem dL_act_236 : decode cL_act 236 = .ok (.iconst 3, 1) := by decide +kernel
theorem dL_act_237 : decode cL_act 237 = .ok (.iaload, 1) := by decide +kernel
theorem dL_act_238 : decode cL_act 238 = .ok (.iconst 1, 1) := by decide +kernel
theorem dL_act_239 : decode cL_act 239 = .ok (.if_icmp .ne 7, 3) := by decide +kernel
theorem dL_act_242 : decode cL_act 242 = .ok (.iconst 1, 1) := by decide +kernel
theorem dL_act_243 : decode cL_act 243 = .ok (.goto 4, 3) := by decide +kernel
theorem dL_act_246 : decode cL_act 246 = .ok (.iconst 0, 1) := by decide +kernel
theorem dL_act_247 : decode cL_act 247 = .ok (.if_icmp .ne 7, 3) := by decide +kernel
theorem dL_act_250 : decode cL_act 250 = .ok (.iconst 1, 1) := by decide +kernel
theorem dL_act_251 : decode cL_act 251 = .ok (.goto 4, 3) := by decide +kernel
theorem dL_act_254 : decode cL_act 254 = .ok (.iconst 0, 1) := by decide +kernel
theorem dL_act_255 : decode cL_act 255 = .ok (.ireturn, 1) := by decide +kernel
theorem dL_act_256 : decode cL_act 256 = .ok (.iload_n 2, 1) := by decide +kernel
theorem dL_act_257 : decode cL_act 257 = .ok (.iconst 4, 1) := by decide +kernel
theorem dL_act_258 : decode cL_act 258 = .ok (.invokestatic 19, 3) := by decide +kernel
theorem dL_act_261 : decode cL_act 261 = .ok (.ifCond .le 5, 3) := by decide +kernel
theorem dL_act_264 : decode cL_act 264 = .ok (.iconst 1, 1) := by decide +kernel
theorem dL_act_265 : decode cL_act 265 = .ok (.ireturn, 1) := by decide +kernel
theorem dL_act_266 : decode cL_act 266 = .ok (.iconst 0, 1) := by decide +kernel
theorem dL_act_267 : decode cL_act 267 = .ok (.istore 8, 2) := by decide +kernel
theorem dL_act_269 : decode cL_act 269 = .ok (.iconst 0, 1) := by decide +kernel
theorem dL_act_270 : decode cL_act 270 = .ok (.istore 9, 2) := by decide +kernel
theorem dL_act_272 : decode cL_act 272 = .ok (.iload 9, 2) := by decide +kernel
theorem dL_act_274 : decode cL_act 274 = .ok (.iload 4, 2) := by decide +kernel
theorem dL_act_276 : decode cL_act 276 = .ok (.if_icmp .ge 67, 3) := by decide +kernel
theorem dL_act_279 : decode cL_act 279 = .ok (.aload_n 1, 1) := by decide +kernel
theorem dL_act_280 : decode cL_act 280 = .ok (.invokevirtual 38, 3) := by decide +kernel
theorem dL_act_283 : decode cL_act 283 = .ok (.ifnull 60, 3) := by decide +kernel
theorem dL_act_286 : decode cL_act 286 = .ok (.aload_n 1, 1) := by decide +kernel
theorem dL_act_287 : decode cL_act 287 = .ok (.getfield 15, 3) := by decide +kernel
theorem dL_act_290 : decode cL_act 290 = .ok (.iload 9, 2) := by decide +kernel
theorem dL_act_292 : decode cL_act 292 = .ok (.aaload, 1) := by decide +kernel
theorem dL_act_293 : decode cL_act 293 = .ok (.iconst 3, 1) := by decide +kernel
theorem dL_act_294 : decode cL_act 294 = .ok (.iaload, 1) := by decide +kernel
theorem dL_act_295 : decode cL_act 295 = .ok (.ifCond .ne 6, 3) := by decide +kernel
theorem dL_act_298 : decode cL_act 298 = .ok (.goto 39, 3) := by decide +kernel
theorem dL_act_301 : decode cL_act 301 = .ok (.aload_n 1, 1) := by decide +kernel
theorem dL_act_302 : decode cL_act 302 = .ok (.iload 9, 2) := by decide +kernel
theorem dL_act_304 : decode cL_act 304 = .ok (.invokevirtual 42, 3) := by decide +kernel
theorem dL_act_307 : decode cL_act 307 = .ok (.istore 10, 2) := by decide +kernel
theorem dL_act_309 : decode cL_act 309 = .ok (.iload 8, 2) := by decide +kernel
theorem dL_act_311 : decode cL_act 311 = .ok (.aload_n 1, 1) := by decide +kernel
theorem dL_act_312 : decode cL_act 312 = .ok (.getfield 15, 3) := by decide +kernel
theorem dL_act_315 : decode cL_act 315 = .ok (.iload 9, 2) := by decide +kernel
theorem dL_act_317 : decode cL_act 317 = .ok (.aaload, 1) := by decide +kernel
theorem dL_act_318 : decode cL_act 318 = .ok (.iconst 2, 1) := by decide +kernel
theorem dL_act_319 : decode cL_act 319 = .ok (.iaload, 1) := by decide +kernel
theorem dL_act_320 : decode cL_act 320 = .ok (.iload 10, 2) := by decide +kernel
theorem dL_act_322 : decode cL_act 322 = .ok (.isub, 1) := by decide +kernel
theorem dL_act_323 : decode cL_act 323 = .ok (.iadd, 1) := by decide +kernel
theorem dL_act_324 : decode cL_act 324 = .ok (.istore 8, 2) := by decide +kernel
theorem dL_act_326 : decode cL_act 326 = .ok (.aload_n 1, 1) := by decide +kernel
theorem dL_act_327 : decode cL_act 327 = .ok (.getfield 15, 3) := by decide +kernel
theorem dL_act_330 : decode cL_act 330 = .ok (.iload 9, 2) := by decide +kernel
theorem dL_act_332 : decode cL_act 332 = .ok (.aaload, 1) := by decide +kernel
theorem dL_act_333 : decode cL_act 333 = .ok (.iconst 2, 1) := by decide +kernel
theorem dL_act_334 : decode cL_act 334 = .ok (.iload 10, 2) := by decide +kernel
theorem dL_act_336 : decode cL_act 336 = .ok (.iastore, 1) := by decide +kernel
theorem dL_act_337 : decode cL_act 337 = .ok (.iinc 9 1, 3) := by decide +kernel
theorem dL_act_340 : decode cL_act 340 = .ok (.goto (-68), 3) := by decide +kernel
theorem dL_act_343 : decode cL_act 343 = .ok (.aload_n 0, 1) := by decide +kernel
theorem dL_act_344 : decode cL_act 344 = .ok (.invokevirtual 46, 3) := by decide +kernel
theorem dL_act_347 : decode cL_act 347 = .ok (.iload 8, 2) := by decide +kernel
theorem dL_act_349 : decode cL_act 349 = .ok (.if_icmp .ne 7, 3) := by decide +kernel
theorem dL_act_352 : decode cL_act 352 = .ok (.iconst 1, 1) := by decide +kernel
theorem dL_act_353 : decode cL_act 353 = .ok (.goto 4, 3) := by decide +kernel
theorem dL_act_356 : decode cL_act 356 = .ok (.iconst 0, 1) := by decide +kernel
theorem dL_act_357 : decode cL_act 357 = .ok (.ireturn, 1) := by decide +kernel
theorem dL_act_358 : decode cL_act 358 = .ok (.iload_n 3, 1) := by decide +kernel
theorem dL_act_359 : decode cL_act 359 = .ok (.iconst 2, 1) := by decide +kernel
theorem dL_act_360 : decode cL_act 360 = .ok (.if_icmp .lt 10, 3) := by decide +kernel
theorem dL_act_363 : decode cL_act 363 = .ok (.iload 4, 2) := by decide +kernel
theorem dL_act_365 : decode cL_act 365 = .ok (.bipush 30, 2) := by decide +kernel
theorem dL_act_367 : decode cL_act 367 = .ok (.if_icmp .ne 5, 3) := by decide +kernel
theorem dL_act_370 : decode cL_act 370 = .ok (.iconst 1, 1) := by decide +kernel
theorem dL_act_371 : decode cL_act 371 = .ok (.ireturn, 1) := by decide +kernel
theorem dL_act_372 : decode cL_act 372 = .ok (.iload_n 2, 1) := by decide +kernel
theorem dL_act_373 : decode cL_act 373 = .ok (.iconst 2, 1) := by decide +kernel
theorem dL_act_374 : decode cL_act 374 = .ok (.ishr, 1) := by decide +kernel
theorem dL_act_375 : decode cL_act 375 = .ok (.iload_n 3, 1) := by decide +kernel
theorem dL_act_376 : decode cL_act 376 = .ok (.invokestatic 19, 3) := by decide +kernel
theorem dL_act_379 : decode cL_act 379 = .ok (.istore 9, 2) := by decide +kernel
theorem dL_act_381 : decode cL_act 381 = .ok (.iload 9, 2) := by decide +kernel
theorem dL_act_383 : decode cL_act 383 = .ok (.iconst 1, 1) := by decide +kernel
theorem dL_act_384 : decode cL_act 384 = .ok (.iadd, 1) := by decide +kernel
theorem dL_act_385 : decode cL_act 385 = .ok (.iload_n 2, 1) := by decide +kernel
theorem dL_act_386 : decode cL_act 386 = .ok (.iconst 4, 1) := by decide +kernel
theorem dL_act_387 : decode cL_act 387 = .ok (.ishr, 1) := by decide +kernel
theorem dL_act_388 : decode cL_act 388 = .ok (.iload_n 3, 1) := by decide +kernel
theorem dL_act_389 : decode cL_act 389 = .ok (.iconst 1, 1) := by decide +kernel
theorem dL_act_390 : decode cL_act 390 = .ok (.isub, 1) := by decide +kernel
theorem dL_act_391 : decode cL_act 391 = .ok (.invokestatic 19, 3) := by decide +kernel
theorem dL_act_394 : decode cL_act 394 = .ok (.iadd, 1) := by decide +kernel
theorem dL_act_395 : decode cL_act 395 = .ok (.iload_n 3, 1) := by decide +kernel
theorem dL_act_396 : decode cL_act 396 = .ok (.irem, 1) := by decide +kernel
theorem dL_act_397 : decode cL_act 397 = .ok (.istore 10, 2) := by decide +kernel
theorem dL_act_399 : decode cL_act 399 = .ok (.iload 4, 2) := by decide +kernel
theorem dL_act_401 : decode cL_act 401 = .ok (.iconst 1, 1) := by decide +kernel
theorem dL_act_402 : decode cL_act 402 = .ok (.iadd, 1) := by decide +kernel
theorem dL_act_403 : decode cL_act 403 = .ok (.anewarray 49, 3) := by decide +kernel
theorem dL_act_406 : decode cL_act 406 = .ok (.astore 11, 2) := by decide +kernel
theorem dL_act_408 : decode cL_act 408 = .ok (.iconst 0, 1) := by decide +kernel
theorem dL_act_409 : decode cL_act 409 = .ok (.istore 12, 2) := by decide +kernel
theorem dL_act_411 : decode cL_act 411 = .ok (.iload 12, 2) := by decide +kernel
theorem dL_act_413 : decode cL_act 413 = .ok (.iload 4, 2) := by decide +kernel
theorem dL_act_415 : decode cL_act 415 = .ok (.if_icmp .ge 21, 3) := by decide +kernel
theorem dL_act_418 : decode cL_act 418 = .ok (.aload 11, 2) := by decide +kernel
theorem dL_act_420 : decode cL_act 420 = .ok (.iload 12, 2) := by decide +kernel
theorem dL_act_422 : decode cL_act 422 = .ok (.aload_n 1, 1) := by decide +kernel
theorem dL_act_423 : decode cL_act 423 = .ok (.getfield 15, 3) := by decide +kernel
theorem dL_act_426 : decode cL_act 426 = .ok (.iload 12, 2) := by decide +kernel
theorem dL_act_428 : decode cL_act 428 = .ok (.aaload, 1) := by decide +kernel
theorem dL_act_429 : decode cL_act 429 = .ok (.aastore, 1) := by decide +kernel
theorem dL_act_430 : decode cL_act 430 = .ok (.iinc 12 1, 3) := by decide +kernel
theorem dL_act_433 : decode cL_act 433 = .ok (.goto (-22), 3) := by decide +kernel
theorem dL_act_436 : decode cL_act 436 = .ok (.aload 11, 2) := by decide +kernel
theorem dL_act_438 : decode cL_act 438 = .ok (.iload 4, 2) := by decide +kernel
theorem dL_act_440 : decode cL_act 440 = .ok (.iconst 4, 1) := by decide +kernel
theorem dL_act_441 : decode cL_act 441 = .ok (.newarray .int, 2) := by decide +kernel
theorem dL_act_443 : decode cL_act 443 = .ok (.dup, 1) := by decide +kernel
theorem dL_act_444 : decode cL_act 444 = .ok (.iconst 0, 1) := by decide +kernel
theorem dL_act_445 : decode cL_act 445 = .ok (.iload 9, 2) := by decide +kernel
theorem dL_act_447 : decode cL_act 447 = .ok (.iastore, 1) := by decide +kernel
theorem dL_act_448 : decode cL_act 448 = .ok (.dup, 1) := by decide +kernel
theorem dL_act_449 : decode cL_act 449 = .ok (.iconst 1, 1) := by decide +kernel
theorem dL_act_450 : decode cL_act 450 = .ok (.iload 10, 2) := by decide +kernel
theorem dL_act_452 : decode cL_act 452 = .ok (.iastore, 1) := by decide +kernel
theorem dL_act_453 : decode cL_act 453 = .ok (.dup, 1) := by decide +kernel
theorem dL_act_454 : decode cL_act 454 = .ok (.iconst 2, 1) := by decide +kernel
theorem dL_act_455 : decode cL_act 455 = .ok (.iload 6, 2) := by decide +kernel
theorem dL_act_457 : decode cL_act 457 = .ok (.iastore, 1) := by decide +kernel
theorem dL_act_458 : decode cL_act 458 = .ok (.dup, 1) := by decide +kernel
theorem dL_act_459 : decode cL_act 459 = .ok (.iconst 3, 1) := by decide +kernel
theorem dL_act_460 : decode cL_act 460 = .ok (.iconst 1, 1) := by decide +kernel
theorem dL_act_461 : decode cL_act 461 = .ok (.iastore, 1) := by decide +kernel
theorem dL_act_462 : decode cL_act 462 = .ok (.aastore, 1) := by decide +kernel
theorem dL_act_463 : decode cL_act 463 = .ok (.aload_n 1, 1) := by decide +kernel
theorem dL_act_464 : decode cL_act 464 = .ok (.aload 11, 2) := by decide +kernel
theorem dL_act_466 : decode cL_act 466 = .ok (.putfield 15, 3) := by decide +kernel
theorem dL_act_469 : decode cL_act 469 = .ok (.aload_n 0, 1) := by decide +kernel
theorem dL_act_470 : decode cL_act 470 = .ok (.iload 9, 2) := by decide +kernel
theorem dL_act_472 : decode cL_act 472 = .ok (.iload 10, 2) := by decide +kernel
theorem dL_act_474 : decode cL_act 474 = .ok (.iload 6, 2) := by decide +kernel
theorem dL_act_476 : decode cL_act 476 = .ok (.invokevirtual 51, 3) := by decide +kernel
theorem dL_act_479 : decode cL_act 479 = .ok (.iload 4, 2) := by decide +kernel
theorem dL_act_481 : decode cL_act 481 = .ok (.if_icmp .ne 7, 3) := by decide +kernel
theorem dL_act_484 : decode cL_act 484 = .ok (.iconst 1, 1) := by decide +kernel
theorem dL_act_485 : decode cL_act 485 = .ok (.goto 4, 3) := by decide +kernel
theorem dL_act_488 : decode cL_act 488 = .ok (.iconst 0, 1) := by decide +kernel
theorem dL_act_489 : decode cL_act 489 = .ok (.ireturn, 1) := by decide +kernel
set_option maxRecDepth 20000 in
theorem ggL_build_X1_init : GoodIn wsL_build wsX1_init := goodIn_r _ [6, 7, 8, 9, 10, 11, 152, 153] (by decide +kernel) (by decide +kernel)
set_option maxRecDepth 20000 in
theorem gL_build_X1_init_n55 : GoodIn wsL_build (wsX1_init) := ggL_build_X1_init
set_option maxRecDepth 20000 in
theorem ggL_build_L_cell : GoodIn wsL_build wsL_cell := goodIn_r _ [15, 16] (by decide +kernel) (by decide +kernel)
set_option maxRecDepth 20000 in
theorem gL_build_L_cell : GoodIn wsL_build (va_wsS RL 56 yL_cell wsL_cell) := goodIn_app (goodIn_of _ (by decide +kernel)) ggL_build_L_cell
set_option maxRecDepth 20000 in
theorem ggL_build_L_below : GoodIn wsL_build wsL_below := goodIn_r _ [19, 20] (by decide +kernel) (by decide +kernel)
set_option maxRecDepth 20000 in
theorem gL_build_L_below : GoodIn wsL_build (va_wsS RL 19 yL_below wsL_below) := goodIn_app (goodIn_of _ (by decide +kernel)) ggL_build_L_below
set_option maxRecDepth 20000 in
theorem ggL_build_X0_turn : GoodIn wsL_build wsX0_turn := goodIn_ca (goodIn_r _ [25, 26, 27, 28, 29, 30, 31, 24, 32, 33, 34, 35, 36, 37, 38, 39, 40, 41, 42, 43, 44, 45, 46, 47, 48, 49, 50, 51, 52, 53, 54, 55, 56, 57, 58, 59, 60, 61, 62, 63, 64, 65, 66, 67, 68, 69, 70, 71, 72, 73, 74, 75, 76, 77, 154, 155, 156, 157, 158, 159, 160, 161, 162, 163, 164, 165] (by decide +kernel) (by decide +kernel)) (goodIn_sub (fun _ h => List.mem_cons_of_mem _ (List.mem_append_left _ (List.mem_append_left _ (List.mem_append_right _ h)))) (by decide +kernel))
set_option maxRecDepth 20000 in
theorem gL_build_X0_turn : GoodIn wsL_build (wsV RL 25 RX0 yX0_turn wsX0_turn) := goodIn_app (goodIn_of _ (by decide +kernel)) ggL_build_X0_turn
set_option maxRecDepth 20000 in
theorem ggL_build_L_act : GoodIn wsL_build wsL_act := goodIn_ca (goodIn_ca (goodIn_ca (goodIn_r _ [80, 4, 81, 82, 83, 17, 18, 14, 19, 20, 21, 22, 23, 24, 25, 26, 27, 28, 29, 30, 31, 32, 33, 34, 35, 36, 37, 38, 39, 40, 41, 42, 43, 44, 45, 46, 47, 48, 49, 50, 51, 52, 53, 54, 55, 56, 57, 58, 59, 60, 61, 62, 63, 64, 65, 66, 67, 68, 69, 70, 71, 72, 73, 74, 75, 76, 77, 84, 85, 86, 87, 88, 89, 90, 91, 92, 93, 94, 95, 96, 97, 98, 99, 100, 101, 102, 103, 104, 105, 3, 106, 107, 108, 109, 11, 110, 111, 112, 113, 114, 115, 116, 117, 118, 2, 10, 119, 120, 121, 122, 123, 124, 5, 6, 7, 8, 9, 125, 126, 127, 128, 129, 130, 131, 132, 133, 134, 135, 136, 137, 138, 139, 140, 141, 142, 143, 144, 145, 146, 147, 148, 149, 150, 151, 152, 153, 154, 155, 156, 157, 158, 159, 160, 161, 162, 163, 164, 165] (by decide +kernel) (by decide +kernel)) (goodIn_sub (fun _ h => List.mem_cons_of_mem _ (List.mem_append_left _ (List.mem_append_left _ (List.mem_append_right _ h)))) (by decide +kernel))) (goodIn_sub (fun _ h => List.mem_cons_of_mem _ (List.mem_append_left _ (List.mem_append_right _ h))) (by decide +kernel))) (goodIn_sub (fun _ h => List.mem_cons_of_mem _ (List.mem_append_right _ h)) (by decide +kernel))
set_option maxRecDepth 20000 in
theorem gL_build_L_act : GoodIn wsL_build (va_wsS RL 60 yL_act wsL_act) := goodIn_app (goodIn_of _ (by decide +kernel)) ggL_build_L_act
theorem dL_build_0 : decode cL_build 0 = .ok (.new 10, 3) := by decide +kernel
theorem dL_build_3 : decode cL_build 3 = .ok (.dup, 1) := by decide +kernel
theorem dL_build_4 : decode cL_build 4 = .ok (.invokespecial 55, 3) := by decide +kernel
theorem dL_build_7 : decode cL_build 7 = .ok (.astore_n 2, 1) := by decide +kernel
theorem dL_build_8 : decode cL_build 8 = .ok (.iconst 2, 1) := by decide +kernel
theorem dL_build_9 : decode cL_build 9 = .ok (.aload_n 1, 1) := by decide +kernel
theorem dL_build_10 : decode cL_build 10 = .ok (.iconst 0, 1) := by decide +kernel
theorem dL_build_11 : decode cL_build 11 = .ok (.invokestatic 56, 3) := by decide +kernel
theorem dL_build_14 : decode cL_build 14 = .ok (.bipush 7, 2) := by decide +kernel
theorem dL_build_16 : decode cL_build 16 = .ok (.invokestatic 19, 3) := by decide +kernel
theorem dL_build_19 : decode cL_build 19 = .ok (.iadd, 1) := by decide +kernel
theorem dL_build_20 : decode cL_build 20 = .ok (.istore_n 3, 1) := by decide +kernel
theorem dL_build_21 : decode cL_build 21 = .ok (.iconst 0, 1) := by decide +kernel
theorem dL_build_22 : decode cL_build 22 = .ok (.istore 4, 2) := by decide +kernel
theorem dL_build_24 : decode cL_build 24 = .ok (.iload 4, 2) := by decide +kernel
theorem dL_build_26 : decode cL_build 26 = .ok (.iload_n 3, 1) := by decide +kernel
theorem dL_build_27 : decode cL_build 27 = .ok (.if_icmp .ge 20, 3) := by decide +kernel
theorem dL_build_30 : decode cL_build 30 = .ok (.aload_n 0, 1) := by decide +kernel
theorem dL_build_31 : decode cL_build 31 = .ok (.invokevirtual 25, 3) := by decide +kernel
theorem dL_build_34 : decode cL_build 34 = .ok (.iload 4, 2) := by decide +kernel
theorem dL_build_36 : decode cL_build 36 = .ok (.if_icmp .eq 5, 3) := by decide +kernel
theorem dL_build_39 : decode cL_build 39 = .ok (.aconst_null, 1) := by decide +kernel
theorem dL_build_40 : decode cL_build 40 = .ok (.areturn, 1) := by decide +kernel
theorem dL_build_41 : decode cL_build 41 = .ok (.iinc 4 1, 3) := by decide +kernel
theorem dL_build_44 : decode cL_build 44 = .ok (.goto (-20), 3) := by decide +kernel
theorem dL_build_47 : decode cL_build 47 = .ok (.aload_n 2, 1) := by decide +kernel
theorem dL_build_48 : decode cL_build 48 = .ok (.iload_n 3, 1) := by decide +kernel
theorem dL_build_49 : decode cL_build 49 = .ok (.putfield 9, 3) := by decide +kernel
theorem dL_build_52 : decode cL_build 52 = .ok (.iconst 4, 1) := by decide +kernel
theorem dL_build_53 : decode cL_build 53 = .ok (.aload_n 1, 1) := by decide +kernel
theorem dL_build_54 : decode cL_build 54 = .ok (.iconst 1, 1) := by decide +kernel
theorem dL_build_55 : decode cL_build 55 = .ok (.invokestatic 56, 3) := by decide +kernel
theorem dL_build_58 : decode cL_build 58 = .ok (.bipush 24, 2) := by decide +kernel
theorem dL_build_60 : decode cL_build 60 = .ok (.invokestatic 19, 3) := by decide +kernel
theorem dL_build_63 : decode cL_build 63 = .ok (.iadd, 1) := by decide +kernel
theorem dL_build_64 : decode cL_build 64 = .ok (.istore 4, 2) := by decide +kernel
theorem dL_build_66 : decode cL_build 66 = .ok (.iconst 0, 1) := by decide +kernel
theorem dL_build_67 : decode cL_build 67 = .ok (.istore 5, 2) := by decide +kernel
theorem dL_build_69 : decode cL_build 69 = .ok (.iload 5, 2) := by decide +kernel
theorem dL_build_71 : decode cL_build 71 = .ok (.iload 4, 2) := by decide +kernel
theorem dL_build_73 : decode cL_build 73 = .ok (.if_icmp .ge 43, 3) := by decide +kernel
theorem dL_build_76 : decode cL_build 76 = .ok (.aload_n 0, 1) := by decide +kernel
theorem dL_build_77 : decode cL_build 77 = .ok (.aload_n 2, 1) := by decide +kernel
theorem dL_build_78 : decode cL_build 78 = .ok (.aload_n 1, 1) := by decide +kernel
theorem dL_build_79 : decode cL_build 79 = .ok (.iload 5, 2) := by decide +kernel
theorem dL_build_81 : decode cL_build 81 = .ok (.bipush 16, 2) := by decide +kernel
theorem dL_build_83 : decode cL_build 83 = .ok (.irem, 1) := by decide +kernel
theorem dL_build_84 : decode cL_build 84 = .ok (.invokestatic 56, 3) := by decide +kernel
theorem dL_build_87 : decode cL_build 87 = .ok (.iload 5, 2) := by decide +kernel
theorem dL_build_89 : decode cL_build 89 = .ok (.bipush 16, 2) := by decide +kernel
theorem dL_build_91 : decode cL_build 91 = .ok (.idiv, 1) := by decide +kernel
theorem dL_build_92 : decode cL_build 92 = .ok (.iconst 3, 1) := by decide +kernel
theorem dL_build_93 : decode cL_build 93 = .ok (.imul, 1) := by decide +kernel
theorem dL_build_94 : decode cL_build 94 = .ok (.ishr, 1) := by decide +kernel
theorem dL_build_95 : decode cL_build 95 = .ok (.sipush 347, 3) := by decide +kernel
theorem dL_build_98 : decode cL_build 98 = .ok (.iload 5, 2) := by decide +kernel
theorem dL_build_100 : decode cL_build 100 = .ok (.imul, 1) := by decide +kernel
theorem dL_build_101 : decode cL_build 101 = .ok (.iadd, 1) := by decide +kernel
theorem dL_build_102 : decode cL_build 102 = .ok (.invokestatic 60, 3) := by decide +kernel
theorem dL_build_105 : decode cL_build 105 = .ok (.ifCond .ne 5, 3) := by decide +kernel
theorem dL_build_108 : decode cL_build 108 = .ok (.aconst_null, 1) := by decide +kernel
theorem dL_build_109 : decode cL_build 109 = .ok (.areturn, 1) := by decide +kernel
theorem dL_build_110 : decode cL_build 110 = .ok (.iinc 5 1, 3) := by decide +kernel
theorem dL_build_113 : decode cL_build 113 = .ok (.goto (-44), 3) := by decide +kernel
theorem dL_build_116 : decode cL_build 116 = .ok (.aload_n 2, 1) := by decide +kernel
theorem dL_build_117 : decode cL_build 117 = .ok (.areturn, 1) := by decide +kernel
set_option maxRecDepth 20000 in
theorem ggL_law_X0_init : GoodIn wsL_law wsX0_init := goodIn_r _ [9, 10, 11, 12, 4, 13, 14, 15, 16, 17, 18, 19, 20, 21, 22, 23, 24, 25, 2, 26, 27, 28, 29, 30, 31, 32, 33, 34, 35, 36, 37, 38, 39, 40, 41, 42, 43, 44, 45, 46, 47, 48, 49, 50, 51, 52, 53, 54, 55, 56, 57, 58, 59, 60, 61, 62, 63, 64, 65, 66, 266, 267, 268, 269, 270, 271, 272, 273, 274, 275, 276, 277] (by decide +kernel) (by decide +kernel)
set_option maxRecDepth 20000 in
theorem gL_law_X0_init : GoodIn wsL_law (wsX0_init) := ggL_law_X0_init
set_option maxRecDepth 20000 in
theorem ggL_law_L_build : GoodIn wsL_law wsL_build := goodIn_ca (goodIn_ca (goodIn_ca (goodIn_r _ [70, 71, 72, 73, 74, 75, 76, 77, 11, 12, 78, 79, 80, 81, 69, 82, 83, 84, 85, 86, 87, 88, 89, 90, 2, 91, 92, 93, 32, 23, 24, 25, 26, 18, 27, 28, 29, 30, 31, 33, 34, 35, 36, 37, 17, 14, 15, 13, 38, 39, 40, 41, 42, 43, 44, 45, 46, 47, 48, 49, 50, 19, 51, 52, 53, 54, 55, 56, 57, 58, 59, 60, 61, 62, 63, 64, 65, 66, 94, 95, 96, 6, 97, 4, 98, 99, 100, 101, 102, 103, 104, 105, 106, 107, 108, 109, 110, 111, 112, 113, 114, 115, 116, 117, 118, 119, 120, 121, 122, 123, 124, 125, 126, 127, 128, 129, 130, 131, 132, 133, 134, 135, 136, 137, 138, 139, 140, 141, 142, 143, 144, 145, 146, 147, 148, 149, 150, 151, 152, 153, 154, 155, 156, 157, 158, 159, 160, 161, 162, 163, 164, 165, 278, 279, 266, 267, 268, 269, 270, 271, 272, 273, 274, 275, 276, 277] (by decide +kernel) (by decide +kernel)) (goodIn_sub (fun _ h => List.mem_append_left _ (List.mem_append_left _ (List.mem_append_right _ h))) (by decide +kernel))) (goodIn_sub (fun _ h => List.mem_append_left _ (List.mem_append_right _ h)) (by decide +kernel))) (goodIn_sub (fun _ h => List.mem_append_right _ h) (by decide +kernel))
set_option maxRecDepth 20000 in
theorem gL_law_L_build : GoodIn wsL_law (va_wsS RL 65 yL_build wsL_build) := goodIn_app (goodIn_of _ (by decide +kernel)) ggL_law_L_build
set_option maxRecDepth 20000 in
theorem ggL_law_L_cell : GoodIn wsL_law wsL_cell := goodIn_r _ [82, 83] (by decide +kernel) (by decide +kernel)
set_option maxRecDepth 20000 in
theorem gL_law_L_cell : GoodIn wsL_law (va_wsS RL 56 yL_cell wsL_cell) := goodIn_app (goodIn_of _ (by decide +kernel)) ggL_law_L_cell
set_option maxRecDepth 20000 in
theorem ggL_law_L_act : GoodIn wsL_law wsL_act := goodIn_ca (goodIn_ca (goodIn_ca (goodIn_r _ [96, 74, 6, 97, 4, 84, 85, 69, 86, 87, 88, 89, 90, 2, 91, 92, 93, 32, 23, 24, 25, 26, 18, 27, 28, 29, 30, 31, 33, 34, 35, 36, 37, 17, 14, 15, 13, 38, 39, 40, 41, 42, 43, 44, 45, 46, 47, 48, 49, 50, 19, 51, 52, 53, 54, 55, 56, 57, 58, 59, 60, 61, 62, 63, 64, 65, 66, 98, 99, 100, 101, 102, 103, 104, 105, 106, 107, 108, 109, 110, 111, 112, 113, 114, 115, 116, 117, 118, 119, 73, 120, 121, 122, 123, 79, 124, 125, 126, 127, 128, 129, 130, 131, 132, 72, 78, 133, 134, 135, 136, 137, 138, 75, 76, 77, 11, 12, 139, 140, 141, 142, 143, 144, 145, 146, 147, 148, 149, 150, 151, 152, 153, 154, 155, 156, 157, 158, 159, 160, 161, 162, 163, 164, 165, 278, 279, 266, 267, 268, 269, 270, 271, 272, 273, 274, 275, 276, 277] (by decide +kernel) (by decide +kernel)) (goodIn_sub (fun _ h => List.mem_append_left _ (List.mem_append_left _ (List.mem_append_right _ h))) (by decide +kernel))) (goodIn_sub (fun _ h => List.mem_append_left _ (List.mem_append_right _ h)) (by decide +kernel))) (goodIn_sub (fun _ h => List.mem_append_right _ h) (by decide +kernel))
set_option maxRecDepth 20000 in
theorem gL_law_L_act : GoodIn wsL_law (va_wsS RL 60 yL_act wsL_act) := goodIn_app (goodIn_of _ (by decide +kernel)) ggL_law_L_act
set_option maxRecDepth 20000 in
theorem ggL_law_X0_count : GoodIn wsL_law wsX0_count := goodIn_ca (goodIn_r _ [169, 32, 37, 27, 18, 170, 171, 2, 172, 106, 107, 173, 174, 175, 176, 17, 38, 39, 40, 41, 177, 178, 179, 180, 152, 153, 57, 154, 181, 182, 183, 184, 185, 186, 187, 188, 14, 13, 15, 189, 190, 191, 192, 193, 194, 195, 196, 21, 46, 197, 198, 199, 200, 22, 55, 56, 58, 266, 267, 268, 269, 270, 271, 272, 273, 274, 275, 276, 277] (by decide +kernel) (by decide +kernel)) (goodIn_sub (fun _ h => List.mem_append_left _ (List.mem_append_right _ h)) (by decide +kernel))
set_option maxRecDepth 20000 in
theorem gL_law_X0_count : GoodIn wsL_law (wsV RL 69 RX0 yX0_count wsX0_count) := goodIn_app (goodIn_of _ (by decide +kernel)) ggL_law_X0_count
set_option maxRecDepth 20000 in
theorem ggL_law_X0_advise : GoodIn wsL_law wsX0_advise := goodIn_r _ [204, 18, 46, 37, 17, 20, 38, 39, 40, 2, 41, 27, 177, 178, 179, 180, 32, 152, 153, 57, 154, 28, 29, 30, 31, 33, 34, 35, 36, 14, 15, 13, 266, 267, 268, 269, 270, 271, 272, 273, 274, 275, 276, 277] (by decide +kernel) (by decide +kernel)
set_option maxRecDepth 20000 in
theorem gL_law_X0_advise : GoodIn wsL_law (wsV RL 72 RX0 yX0_advise wsX0_advise) := goodIn_app (goodIn_of _ (by decide +kernel)) ggL_law_X0_advise
set_option maxRecDepth 20000 in
theorem ggL_law_X0_knot : GoodIn wsL_law wsX0_knot := goodIn_ca (goodIn_r _ [116, 17, 102, 103, 104, 2, 105, 106, 107, 37, 23, 24, 25, 26, 18, 27, 28, 29, 30, 31, 32, 33, 34, 35, 36, 14, 15, 13, 38, 39, 40, 41, 42, 43, 44, 45, 46, 47, 48, 49, 50, 19, 51, 52, 53, 54, 55, 56, 57, 58, 59, 60, 61, 62, 63, 64, 65, 66, 266, 267, 268, 269, 270, 271, 272, 273, 274, 275, 276, 277] (by decide +kernel) (by decide +kernel)) (goodIn_sub (fun _ h => List.mem_append_left _ (List.mem_append_right _ h)) (by decide +kernel))
set_option maxRecDepth 20000 in
theorem gL_law_X0_knot : GoodIn wsL_law (wsV RL 34 RX0 yX0_knot wsX0_knot) := goodIn_app (goodIn_of _ (by decide +kernel)) ggL_law_X0_knot
set_option maxRecDepth 20000 in
theorem ggL_law_X0_holds : GoodIn wsL_law wsX0_holds := goodIn_r _ [208, 38, 39, 40, 2, 41, 27, 266, 267, 268, 269, 270, 271, 272, 273, 274, 275, 276, 277] (by decide +kernel) (by decide +kernel)
set_option maxRecDepth 20000 in
theorem gL_law_X0_holds : GoodIn wsL_law (wsV RL 75 RX0 yX0_holds wsX0_holds) := goodIn_app (goodIn_of _ (by decide +kernel)) ggL_law_X0_holds
set_option maxRecDepth 20000 in
theorem ggL_law_L_below : GoodIn wsL_law wsL_below := goodIn_r _ [86, 87] (by decide +kernel) (by decide +kernel)
set_option maxRecDepth 20000 in
theorem gL_law_L_below : GoodIn wsL_law (va_wsS RL 19 yL_below wsL_below) := goodIn_app (goodIn_of _ (by decide +kernel)) ggL_law_L_below
set_option maxRecDepth 20000 in
theorem ggL_law_X0_late : GoodIn wsL_law wsX0_late := goodIn_ca (goodIn_ca (goodIn_ca (goodIn_r _ [212, 111, 112, 92, 93, 18, 32, 46, 55, 56, 57, 58, 159, 160, 161, 2, 162, 106, 107, 213, 214, 215, 216, 38, 39, 40, 41, 27, 177, 178, 179, 180, 152, 153, 154, 59, 60, 61, 62, 19, 266, 267, 268, 269, 270, 271, 272, 273, 274, 275, 276, 277] (by decide +kernel) (by decide +kernel)) (goodIn_sub (fun _ h => List.mem_append_right _ h) (by decide +kernel))) (goodIn_sub (fun _ h => List.mem_append_left _ (List.mem_append_left _ (List.mem_append_right _ h))) (by decide +kernel))) (goodIn_sub (fun _ h => List.mem_append_left _ (List.mem_append_right _ h)) (by decide +kernel))
set_option maxRecDepth 20000 in
theorem gL_law_X0_late : GoodIn wsL_law (wsV RL 80 RX0 yX0_late wsX0_late) := goodIn_app (goodIn_of _ (by decide +kernel)) ggL_law_X0_late
set_option maxRecDepth 20000 in
theorem ggL_law_X0_about : GoodIn wsL_law wsX0_about := goodIn_ca (goodIn_r _ [220, 13, 14, 18, 159, 160, 161, 2, 162, 106, 107, 32, 170, 171, 172, 221, 222, 223, 224, 37, 17, 38, 39, 40, 41, 27, 266, 267, 268, 269, 270, 271, 272, 273, 274, 275, 276, 277] (by decide +kernel) (by decide +kernel)) (goodIn_sub (fun _ h => List.mem_append_left _ (List.mem_append_right _ h)) (by decide +kernel))
set_option maxRecDepth 20000 in
theorem gL_law_X0_about : GoodIn wsL_law (wsV RL 83 RX0 yX0_about wsX0_about) := goodIn_app (goodIn_of _ (by decide +kernel)) ggL_law_X0_about
set_option maxRecDepth 20000 in
theorem ggL_law_X0_most : GoodIn wsL_law wsX0_most := goodIn_ca (goodIn_ca (goodIn_r _ [228, 159, 160, 161, 2, 162, 106, 107, 32, 213, 214, 215, 216, 92, 93, 38, 39, 40, 41, 27, 59, 60, 61, 62, 19, 266, 267, 268, 269, 270, 271, 272, 273, 274, 275, 276, 277] (by decide +kernel) (by decide +kernel)) (goodIn_sub (fun _ h => List.mem_append_left _ (List.mem_append_right _ h)) (by decide +kernel))) (goodIn_sub (fun _ h => List.mem_append_left _ (List.mem_append_left _ (List.mem_append_right _ h))) (by decide +kernel))
set_option maxRecDepth 20000 in
theorem gL_law_X0_most : GoodIn wsL_law (wsV RL 86 RX0 yX0_most wsX0_most) := goodIn_app (goodIn_of _ (by decide +kernel)) ggL_law_X0_most
set_option maxRecDepth 20000 in
theorem ggL_law_X0_told : GoodIn wsL_law wsX0_told := goodIn_ca (goodIn_r _ [232, 13, 14, 15, 17, 102, 103, 104, 2, 105, 106, 107, 37, 170, 171, 172, 185, 186, 187, 188, 18, 38, 39, 40, 41, 27, 266, 267, 268, 269, 270, 271, 272, 273, 274, 275, 276, 277] (by decide +kernel) (by decide +kernel)) (goodIn_sub (fun _ h => List.mem_append_left _ (List.mem_append_right _ h)) (by decide +kernel))
set_option maxRecDepth 20000 in
theorem gL_law_X0_told : GoodIn wsL_law (wsV RL 90 RX0 yX0_told wsX0_told) := goodIn_app (goodIn_of _ (by decide +kernel)) ggL_law_X0_told
set_option maxRecDepth 20000 in
theorem ggL_law_X0_room : GoodIn wsL_law wsX0_room := goodIn_ca (goodIn_ca (goodIn_r _ [236, 92, 93, 17, 13, 14, 102, 103, 104, 2, 105, 106, 107, 37, 213, 214, 215, 216, 38, 39, 40, 41, 27, 148, 149, 150, 151, 46, 152, 153, 57, 154, 59, 60, 61, 62, 19, 266, 267, 268, 269, 270, 271, 272, 273, 274, 275, 276, 277] (by decide +kernel) (by decide +kernel)) (goodIn_sub (fun _ h => List.mem_append_left _ (List.mem_append_left _ (List.mem_append_right _ h))) (by decide +kernel))) (goodIn_sub (fun _ h => List.mem_append_left _ (List.mem_append_right _ h)) (by decide +kernel))
set_option maxRecDepth 20000 in
theorem gL_law_X0_room : GoodIn wsL_law (wsV RL 93 RX0 yX0_room wsX0_room) := goodIn_app (goodIn_of _ (by decide +kernel)) ggL_law_X0_room
set_option maxRecDepth 20000 in
theorem ggL_law_X0_cut : GoodIn wsL_law wsX0_cut := goodIn_ca (goodIn_ca (goodIn_r _ [101, 15, 102, 103, 104, 2, 105, 106, 107, 37, 108, 109, 110, 111, 112, 23, 24, 25, 26, 18, 27, 28, 29, 30, 31, 32, 33, 34, 35, 36, 17, 14, 13, 38, 39, 40, 41, 42, 43, 44, 45, 46, 47, 48, 49, 50, 19, 51, 52, 53, 54, 55, 56, 57, 58, 59, 60, 61, 62, 63, 64, 65, 66, 266, 267, 268, 269, 270, 271, 272, 273, 274, 275, 276, 277] (by decide +kernel) (by decide +kernel)) (goodIn_sub (fun _ h => List.mem_append_left _ (List.mem_append_right _ h)) (by decide +kernel))) (goodIn_sub (fun _ h => List.mem_append_right _ h) (by decide +kernel))
set_option maxRecDepth 20000 in
theorem gL_law_X0_cut : GoodIn wsL_law (wsV RL 31 RX0 yX0_cut wsX0_cut) := goodIn_app (goodIn_of _ (by decide +kernel)) ggL_law_X0_cut
set_option maxRecDepth 20000 in
theorem ggL_law_X0_tighten : GoodIn wsL_law wsX0_tighten := goodIn_r _ [143, 37, 17, 38, 39, 40, 2, 41, 27, 144, 145, 146, 147, 15, 13, 14, 148, 149, 150, 151, 46, 152, 153, 57, 154, 59, 60, 61, 62, 19, 23, 24, 25, 26, 18, 28, 29, 30, 31, 32, 33, 34, 35, 36, 42, 43, 44, 45, 47, 48, 49, 50, 51, 52, 53, 54, 55, 56, 58, 63, 64, 65, 66, 266, 267, 268, 269, 270, 271, 272, 273, 274, 275, 276, 277] (by decide +kernel) (by decide +kernel)
set_option maxRecDepth 20000 in
theorem gL_law_X0_tighten : GoodIn wsL_law (wsV RL 46 RX0 yX0_tighten wsX0_tighten) := goodIn_app (goodIn_of _ (by decide +kernel)) ggL_law_X0_tighten
set_option maxRecDepth 20000 in
theorem ggL_law_X1_isSame : GoodIn wsL_law wsX1_isSame := goodIn_ca (goodIn_r _ [240, 79, 121, 4, 241, 242, 243, 73, 244, 245, 153, 57, 154, 139, 118, 119, 120, 122, 123, 246, 230, 231, 2, 232, 13, 14, 15, 17, 102, 103, 104, 105, 106, 107, 37, 170, 171, 172, 185, 186, 187, 188, 18, 38, 39, 40, 41, 27, 247, 218, 219, 220, 159, 160, 161, 162, 32, 221, 222, 223, 224, 248, 249, 250, 251, 252, 253, 254, 255, 256, 257, 258, 259, 56, 58, 260, 167, 168, 169, 173, 174, 175, 176, 177, 178, 179, 180, 152, 181, 182, 183, 184, 189, 190, 191, 192, 193, 194, 195, 196, 21, 46, 197, 198, 199, 200, 22, 55, 261, 206, 207, 208, 262, 263, 264, 265, 278, 279, 266, 267, 268, 269, 270, 271, 272, 273, 274, 275, 276, 277] (by decide +kernel) (by decide +kernel)) (goodIn_sub (fun _ h => List.mem_append_left _ (List.mem_append_right _ h)) (by decide +kernel))
set_option maxRecDepth 20000 in
theorem gL_law_X1_isSame : GoodIn wsL_law (wsV RL 94 RX1 yX1_isSame wsX1_isSame) := goodIn_app (goodIn_of _ (by decide +kernel)) ggL_law_X1_isSame
theorem dL_law_0 : decode cL_law 0 = .ok (.new 26, 3) := by decide +kernel
theorem dL_law_3 : decode cL_law 3 = .ok (.dup, 1) := by decide +kernel
theorem dL_law_4 : decode cL_law 4 = .ok (.invokespecial 64, 3) := by decide +kernel
theorem dL_law_7 : decode cL_law 7 = .ok (.astore_n 1, 1) := by decide +kernel
theorem dL_law_8 : decode cL_law 8 = .ok (.aload_n 1, 1) := by decide +kernel
theorem dL_law_9 : decode cL_law 9 = .ok (.aload_n 0, 1) := by decide +kernel
theorem dL_law_10 : decode cL_law 10 = .ok (.invokestatic 65, 3) := by decide +kernel
theorem dL_law_13 : decode cL_law 13 = .ok (.astore_n 2, 1) := by decide +kernel
theorem dL_law_14 : decode cL_law 14 = .ok (.aload_n 2, 1) := by decide +kernel
theorem dL_law_15 : decode cL_law 15 = .ok (.ifnonnull 5, 3) := by decide +kernel
theorem dL_law_18 : decode cL_law 18 = .ok (.iconst 0, 1) := by decide +kernel
theorem dL_law_19 : decode cL_law 19 = .ok (.ireturn, 1) := by decide +kernel
theorem dL_law_20 : decode cL_law 20 = .ok (.iconst 0, 1) := by decide +kernel
theorem dL_law_21 : decode cL_law 21 = .ok (.istore_n 3, 1) := by decide +kernel
theorem dL_law_22 : decode cL_law 22 = .ok (.iload_n 3, 1) := by decide +kernel
theorem dL_law_23 : decode cL_law 23 = .ok (.bipush 8, 2) := by decide +kernel
theorem dL_law_25 : decode cL_law 25 = .ok (.if_icmp .ge 840, 3) := by decide +kernel
theorem dL_law_28 : decode cL_law 28 = .ok (.aload_n 0, 1) := by decide +kernel
theorem dL_law_29 : decode cL_law 29 = .ok (.iload_n 3, 1) := by decide +kernel
theorem dL_law_30 : decode cL_law 30 = .ok (.invokestatic 56, 3) := by decide +kernel
theorem dL_law_33 : decode cL_law 33 = .ok (.sipush 347, 3) := by decide +kernel
theorem dL_law_36 : decode cL_law 36 = .ok (.iload_n 3, 1) := by decide +kernel
theorem dL_law_37 : decode cL_law 37 = .ok (.imul, 1) := by decide +kernel
theorem dL_law_38 : decode cL_law 38 = .ok (.iadd, 1) := by decide +kernel
theorem dL_law_39 : decode cL_law 39 = .ok (.istore 4, 2) := by decide +kernel
theorem dL_law_41 : decode cL_law 41 = .ok (.iconst 0, 1) := by decide +kernel
theorem dL_law_42 : decode cL_law 42 = .ok (.istore 5, 2) := by decide +kernel
theorem dL_law_44 : decode cL_law 44 = .ok (.iload 5, 2) := by decide +kernel
theorem dL_law_46 : decode cL_law 46 = .ok (.iconst 2, 1) := by decide +kernel
theorem dL_law_47 : decode cL_law 47 = .ok (.if_icmp .ge 33, 3) := by decide +kernel
theorem dL_law_50 : decode cL_law 50 = .ok (.aload_n 1, 1) := by decide +kernel
theorem dL_law_51 : decode cL_law 51 = .ok (.aload_n 2, 1) := by decide +kernel
theorem dL_law_52 : decode cL_law 52 = .ok (.iload 4, 2) := by decide +kernel
theorem dL_law_54 : decode cL_law 54 = .ok (.iconst 2, 1) := by decide +kernel
theorem dL_law_55 : decode cL_law 55 = .ok (.iload 5, 2) := by decide +kernel
theorem dL_law_57 : decode cL_law 57 = .ok (.imul, 1) := by decide +kernel
theorem dL_law_58 : decode cL_law 58 = .ok (.ishr, 1) := by decide +kernel
theorem dL_law_59 : decode cL_law 59 = .ok (.sipush 257, 3) := by decide +kernel
theorem dL_law_62 : decode cL_law 62 = .ok (.iload 5, 2) := by decide +kernel
theorem dL_law_64 : decode cL_law 64 = .ok (.imul, 1) := by decide +kernel
theorem dL_law_65 : decode cL_law 65 = .ok (.iadd, 1) := by decide +kernel
theorem dL_law_66 : decode cL_law 66 = .ok (.invokestatic 60, 3) := by decide +kernel
theorem dL_law_69 : decode cL_law 69 = .ok (.ifCond .ne 5, 3) := by decide +kernel
theorem dL_law_72 : decode cL_law 72 = .ok (.iconst 0, 1) := by decide +kernel
theorem dL_law_73 : decode cL_law 73 = .ok (.ireturn, 1) := by decide +kernel
theorem dL_law_74 : decode cL_law 74 = .ok (.iinc 5 1, 3) := by decide +kernel
theorem dL_law_77 : decode cL_law 77 = .ok (.goto (-33), 3) := by decide +kernel
theorem dL_law_80 : decode cL_law 80 = .ok (.aload_n 1, 1) := by decide +kernel
theorem dL_law_81 : decode cL_law 81 = .ok (.iconst 0, 1) := by decide +kernel
theorem dL_law_82 : decode cL_law 82 = .ok (.invokevirtual 69, 3) := by decide +kernel
theorem dL_law_85 : decode cL_law 85 = .ok (.istore 5, 2) := by decide +kernel
theorem dL_law_87 : decode cL_law 87 = .ok (.aload_n 1, 1) := by decide +kernel
theorem dL_law_88 : decode cL_law 88 = .ok (.iconst 1, 1) := by decide +kernel
theorem dL_law_89 : decode cL_law 89 = .ok (.invokevirtual 69, 3) := by decide +kernel
theorem dL_law_92 : decode cL_law 92 = .ok (.istore 6, 2) := by decide +kernel
theorem dL_law_94 : decode cL_law 94 = .ok (.aload_n 1, 1) := by decide +kernel
theorem dL_law_95 : decode cL_law 95 = .ok (.invokevirtual 72, 3) := by decide +kernel
theorem dL_law_98 : decode cL_law 98 = .ok (.istore 7, 2) := by decide +kernel
theorem dL_law_100 : decode cL_law 100 = .ok (.aload_n 1, 1) := by decide +kernel
theorem dL_law_101 : decode cL_law 101 = .ok (.iconst 4, 1) := by decide +kernel
theorem dL_law_102 : decode cL_law 102 = .ok (.invokevirtual 69, 3) := by decide +kernel
theorem dL_law_105 : decode cL_law 105 = .ok (.istore 8, 2) := by decide +kernel
theorem dL_law_107 : decode cL_law 107 = .ok (.iload 7, 2) := by decide +kernel
theorem dL_law_109 : decode cL_law 109 = .ok (.ifCond .lt 45, 3) := by decide +kernel
theorem dL_law_112 : decode cL_law 112 = .ok (.aload_n 1, 1) := by decide +kernel
theorem dL_law_113 : decode cL_law 113 = .ok (.iload 7, 2) := by decide +kernel
theorem dL_law_115 : decode cL_law 115 = .ok (.invokevirtual 34, 3) := by decide +kernel
theorem dL_law_118 : decode cL_law 118 = .ok (.ifCond .ne 34, 3) := by decide +kernel
theorem dL_law_121 : decode cL_law 121 = .ok (.aload_n 1, 1) := by decide +kernel
theorem dL_law_122 : decode cL_law 122 = .ok (.invokevirtual 75, 3) := by decide +kernel
theorem dL_law_125 : decode cL_law 125 = .ok (.ifCond .eq 27, 3) := by decide +kernel
theorem dL_law_128 : decode cL_law 128 = .ok (.iload 8, 2) := by decide +kernel
theorem dL_law_130 : decode cL_law 130 = .ok (.ifCond .lt 13, 3) := by decide +kernel
theorem dL_law_133 : decode cL_law 133 = .ok (.aload_n 1, 1) := by decide +kernel
theorem dL_law_134 : decode cL_law 134 = .ok (.iconst 4, 1) := by decide +kernel
theorem dL_law_135 : decode cL_law 135 = .ok (.invokevirtual 69, 3) := by decide +kernel
theorem dL_law_138 : decode cL_law 138 = .ok (.iload 8, 2) := by decide +kernel
theorem dL_law_140 : decode cL_law 140 = .ok (.if_icmp .ge 12, 3) := by decide +kernel
theorem dL_law_143 : decode cL_law 143 = .ok (.aload_n 1, 1) := by decide +kernel
theorem dL_law_144 : decode cL_law 144 = .ok (.iload 7, 2) := by decide +kernel
theorem dL_law_146 : decode cL_law 146 = .ok (.invokevirtual 34, 3) := by decide +kernel
theorem dL_law_149 : decode cL_law 149 = .ok (.ifCond .ne 5, 3) := by decide +kernel
theorem dL_law_152 : decode cL_law 152 = .ok (.iconst 0, 1) := by decide +kernel
theorem dL_law_153 : decode cL_law 153 = .ok (.ireturn, 1) := by decide +kernel
theorem dL_law_154 : decode cL_law 154 = .ok (.aload_n 1, 1) := by decide +kernel
theorem dL_law_155 : decode cL_law 155 = .ok (.invokevirtual 75, 3) := by decide +kernel
theorem dL_law_158 : decode cL_law 158 = .ok (.ifCond .ne 6, 3) := by decide +kernel
theorem dL_law_161 : decode cL_law 161 = .ok (.goto 698, 3) := by decide +kernel
theorem dL_law_164 : decode cL_law 164 = .ok (.iload 8, 2) := by decide +kernel
theorem dL_law_166 : decode cL_law 166 = .ok (.iload 4, 2) := by decide +kernel
theorem dL_law_168 : decode cL_law 168 = .ok (.iconst 3, 1) := by decide +kernel
theorem dL_law_169 : decode cL_law 169 = .ok (.ishr, 1) := by decide +kernel
theorem dL_law_170 : decode cL_law 170 = .ok (.bipush 30, 2) := by decide +kernel
theorem dL_law_172 : decode cL_law 172 = .ok (.invokestatic 19, 3) := by decide +kernel
theorem dL_law_175 : decode cL_law 175 = .ok (.iadd, 1) := by decide +kernel
theorem dL_law_176 : decode cL_law 176 = .ok (.istore 9, 2) := by decide +kernel
theorem dL_law_178 : decode cL_law 178 = .ok (.iload 5, 2) := by decide +kernel
theorem dL_law_180 : decode cL_law 180 = .ok (.iload 5, 2) := by decide +kernel
theorem dL_law_182 : decode cL_law 182 = .ok (.multianewarray 79 2, 4) := by decide +kernel
theorem dL_law_186 : decode cL_law 186 = .ok (.astore 10, 2) := by decide +kernel
theorem dL_law_188 : decode cL_law 188 = .ok (.iconst 0, 1) := by decide +kernel
theorem dL_law_189 : decode cL_law 189 = .ok (.istore 11, 2) := by decide +kernel
theorem dL_law_191 : decode cL_law 191 = .ok (.iload 11, 2) := by decide +kernel
theorem dL_law_193 : decode cL_law 193 = .ok (.iload 5, 2) := by decide +kernel
theorem dL_law_195 : decode cL_law 195 = .ok (.if_icmp .ge 156, 3) := by decide +kernel
theorem dL_law_198 : decode cL_law 198 = .ok (.aload_n 1, 1) := by decide +kernel
theorem dL_law_199 : decode cL_law 199 = .ok (.iload 11, 2) := by decide +kernel
theorem dL_law_201 : decode cL_law 201 = .ok (.iload 9, 2) := by decide +kernel
theorem dL_law_203 : decode cL_law 203 = .ok (.invokevirtual 80, 3) := by decide +kernel
theorem dL_law_206 : decode cL_law 206 = .ok (.aload_n 1, 1) := by decide +kernel
theorem dL_law_207 : decode cL_law 207 = .ok (.iload 11, 2) := by decide +kernel
theorem dL_law_209 : decode cL_law 209 = .ok (.iconst 2, 1) := by decide +kernel
theorem dL_law_210 : decode cL_law 210 = .ok (.invokevirtual 83, 3) := by decide +kernel
theorem dL_law_213 : decode cL_law 213 = .ok (.if_icmp .lt 16, 3) := by decide +kernel
theorem dL_law_216 : decode cL_law 216 = .ok (.aload_n 1, 1) := by decide +kernel
theorem dL_law_217 : decode cL_law 217 = .ok (.iload 11, 2) := by decide +kernel
theorem dL_law_219 : decode cL_law 219 = .ok (.iload 9, 2) := by decide +kernel
theorem dL_law_221 : decode cL_law 221 = .ok (.invokevirtual 80, 3) := by decide +kernel
theorem dL_law_224 : decode cL_law 224 = .ok (.iload 9, 2) := by decide +kernel
theorem dL_law_226 : decode cL_law 226 = .ok (.if_icmp .le 5, 3) := by decide +kernel
theorem dL_law_229 : decode cL_law 229 = .ok (.iconst 0, 1) := by decide +kernel
theorem dL_law_230 : decode cL_law 230 = .ok (.ireturn, 1) := by decide +kernel
theorem dL_law_231 : decode cL_law 231 = .ok (.iconst 0, 1) := by decide +kernel
theorem dL_law_232 : decode cL_law 232 = .ok (.istore 12, 2) := by decide +kernel
theorem dL_law_234 : decode cL_law 234 = .ok (.iload 12, 2) := by decide +kernel
theorem dL_law_236 : decode cL_law 236 = .ok (.iload 5, 2) := by decide +kernel
theorem dL_law_238 : decode cL_law 238 = .ok (.if_icmp .ge 94, 3) := by decide +kernel
theorem dL_law_241 : decode cL_law 241 = .ok (.aload 10, 2) := by decide +kernel
theorem dL_law_243 : decode cL_law 243 = .ok (.iload 11, 2) := by decide +kernel
theorem dL_law_245 : decode cL_law 245 = .ok (.aaload, 1) := by decide +kernel
theorem dL_law_246 : decode cL_law 246 = .ok (.iload 12, 2) := by decide +kernel
theorem dL_law_248 : decode cL_law 248 = .ok (.aload_n 1, 1) := by decide +kernel
theorem dL_law_249 : decode cL_law 249 = .ok (.iload 11, 2) := by decide +kernel
theorem dL_law_251 : decode cL_law 251 = .ok (.iload 12, 2) := by decide +kernel
theorem dL_law_253 : decode cL_law 253 = .ok (.invokevirtual 86, 3) := by decide +kernel
theorem dL_law_256 : decode cL_law 256 = .ok (.iastore, 1) := by decide +kernel
theorem dL_law_257 : decode cL_law 257 = .ok (.aload 10, 2) := by decide +kernel
theorem dL_law_259 : decode cL_law 259 = .ok (.iload 11, 2) := by decide +kernel
theorem dL_law_261 : decode cL_law 261 = .ok (.aaload, 1) := by decide +kernel
theorem dL_law_262 : decode cL_law 262 = .ok (.iload 12, 2) := by decide +kernel
theorem dL_law_264 : decode cL_law 264 = .ok (.iaload, 1) := by decide +kernel
theorem dL_law_265 : decode cL_law 265 = .ok (.ldc 89, 2) := by decide +kernel
theorem dL_law_267 : decode cL_law 267 = .ok (.if_icmp .eq 59, 3) := by decide +kernel
theorem dL_law_270 : decode cL_law 270 = .ok (.aload_n 1, 1) := by decide +kernel
theorem dL_law_271 : decode cL_law 271 = .ok (.iload 12, 2) := by decide +kernel
theorem dL_law_273 : decode cL_law 273 = .ok (.iconst 2, 1) := by decide +kernel
theorem dL_law_274 : decode cL_law 274 = .ok (.invokevirtual 83, 3) := by decide +kernel
theorem dL_law_277 : decode cL_law 277 = .ok (.aload_n 1, 1) := by decide +kernel
theorem dL_law_278 : decode cL_law 278 = .ok (.iload 11, 2) := by decide +kernel
theorem dL_law_280 : decode cL_law 280 = .ok (.iconst 2, 1) := by decide +kernel
theorem dL_law_281 : decode cL_law 281 = .ok (.invokevirtual 83, 3) := by decide +kernel
theorem dL_law_284 : decode cL_law 284 = .ok (.isub, 1) := by decide +kernel
theorem dL_law_285 : decode cL_law 285 = .ok (.aload 10, 2) := by decide +kernel
theorem dL_law_287 : decode cL_law 287 = .ok (.iload 11, 2) := by decide +kernel
theorem dL_law_289 : decode cL_law 289 = .ok (.aaload, 1) := by decide +kernel
theorem dL_law_290 : decode cL_law 290 = .ok (.iload 12, 2) := by decide +kernel
theorem dL_law_292 : decode cL_law 292 = .ok (.iaload, 1) := by decide +kernel
theorem dL_law_293 : decode cL_law 293 = .ok (.if_icmp .gt 31, 3) := by decide +kernel
theorem dL_law_296 : decode cL_law 296 = .ok (.aload_n 1, 1) := by decide +kernel
theorem dL_law_297 : decode cL_law 297 = .ok (.iload 12, 2) := by decide +kernel
theorem dL_law_299 : decode cL_law 299 = .ok (.iload 9, 2) := by decide +kernel
theorem dL_law_301 : decode cL_law 301 = .ok (.invokevirtual 80, 3) := by decide +kernel
theorem dL_law_304 : decode cL_law 304 = .ok (.aload_n 1, 1) := by decide +kernel
theorem dL_law_305 : decode cL_law 305 = .ok (.iload 11, 2) := by decide +kernel
theorem dL_law_307 : decode cL_law 307 = .ok (.iload 9, 2) := by decide +kernel
theorem dL_law_309 : decode cL_law 309 = .ok (.invokevirtual 80, 3) := by decide +kernel
theorem dL_law_312 : decode cL_law 312 = .ok (.isub, 1) := by decide +kernel
theorem dL_law_313 : decode cL_law 313 = .ok (.aload 10, 2) := by decide +kernel
theorem dL_law_315 : decode cL_law 315 = .ok (.iload 11, 2) := by decide +kernel
theorem dL_law_317 : decode cL_law 317 = .ok (.aaload, 1) := by decide +kernel
theorem dL_law_318 : decode cL_law 318 = .ok (.iload 12, 2) := by decide +kernel
theorem dL_law_320 : decode cL_law 320 = .ok (.iaload, 1) := by decide +kernel
theorem dL_law_321 : decode cL_law 321 = .ok (.if_icmp .le 5, 3) := by decide +kernel
theorem dL_law_324 : decode cL_law 324 = .ok (.iconst 0, 1) := by decide +kernel
theorem dL_law_325 : decode cL_law 325 = .ok (.ireturn, 1) := by decide +kernel
theorem dL_law_326 : decode cL_law 326 = .ok (.iinc 12 1, 3) := by decide +kernel
theorem dL_law_329 : decode cL_law 329 = .ok (.goto (-95), 3) := by decide +kernel
theorem dL_law_332 : decode cL_law 332 = .ok (.aload 10, 2) := by decide +kernel
theorem dL_law_334 : decode cL_law 334 = .ok (.iload 11, 2) := by decide +kernel
theorem dL_law_336 : decode cL_law 336 = .ok (.aaload, 1) := by decide +kernel
theorem dL_law_337 : decode cL_law 337 = .ok (.iload 11, 2) := by decide +kernel
theorem dL_law_339 : decode cL_law 339 = .ok (.iaload, 1) := by decide +kernel
theorem dL_law_340 : decode cL_law 340 = .ok (.ifCond .eq 5, 3) := by decide +kernel
theorem dL_law_343 : decode cL_law 343 = .ok (.iconst 0, 1) := by decide +kernel
theorem dL_law_344 : decode cL_law 344 = .ok (.ireturn, 1) := by decide +kernel
theorem dL_law_345 : decode cL_law 345 = .ok (.iinc 11 1, 3) := by decide +kernel
theorem dL_law_348 : decode cL_law 348 = .ok (.goto (-157), 3) := by decide +kernel
theorem dL_law_351 : decode cL_law 351 = .ok (.iconst 0, 1) := by decide +kernel
theorem dL_law_352 : decode cL_law 352 = .ok (.istore 11, 2) := by decide +kernel
theorem dL_law_354 : decode cL_law 354 = .ok (.iload 11, 2) := by decide +kernel
theorem dL_law_356 : decode cL_law 356 = .ok (.iload 5, 2) := by decide +kernel
theorem dL_law_358 : decode cL_law 358 = .ok (.if_icmp .ge 97, 3) := by decide +kernel
theorem dL_law_361 : decode cL_law 361 = .ok (.iconst 0, 1) := by decide +kernel
theorem dL_law_362 : decode cL_law 362 = .ok (.istore 12, 2) := by decide +kernel
theorem dL_law_364 : decode cL_law 364 = .ok (.iload 12, 2) := by decide +kernel
theorem dL_law_366 : decode cL_law 366 = .ok (.iload 5, 2) := by decide +kernel
theorem dL_law_368 : decode cL_law 368 = .ok (.if_icmp .ge 81, 3) := by decide +kernel
theorem dL_law_371 : decode cL_law 371 = .ok (.iconst 0, 1) := by decide +kernel
theorem dL_law_372 : decode cL_law 372 = .ok (.istore 13, 2) := by decide +kernel
theorem dL_law_374 : decode cL_law 374 = .ok (.iload 13, 2) := by decide +kernel
theorem dL_law_376 : decode cL_law 376 = .ok (.iload 5, 2) := by decide +kernel
theorem dL_law_378 : decode cL_law 378 = .ok (.if_icmp .ge 65, 3) := by decide +kernel
theorem dL_law_381 : decode cL_law 381 = .ok (.aload 10, 2) := by decide +kernel
theorem dL_law_383 : decode cL_law 383 = .ok (.iload 11, 2) := by decide +kernel
theorem dL_law_385 : decode cL_law 385 = .ok (.aaload, 1) := by decide +kernel
theorem dL_law_386 : decode cL_law 386 = .ok (.iload 12, 2) := by decide +kernel
theorem dL_law_388 : decode cL_law 388 = .ok (.iaload, 1) := by decide +kernel
theorem dL_law_389 : decode cL_law 389 = .ok (.ldc 89, 2) := by decide +kernel
theorem dL_law_391 : decode cL_law 391 = .ok (.if_icmp .eq 46, 3) := by decide +kernel
theorem dL_law_394 : decode cL_law 394 = .ok (.aload 10, 2) := by decide +kernel
theorem dL_law_396 : decode cL_law 396 = .ok (.iload 12, 2) := by decide +kernel
theorem dL_law_398 : decode cL_law 398 = .ok (.aaload, 1) := by decide +kernel
theorem dL_law_399 : decode cL_law 399 = .ok (.iload 13, 2) := by decide +kernel
theorem dL_law_401 : decode cL_law 401 = .ok (.iaload, 1) := by decide +kernel
theorem dL_law_402 : decode cL_law 402 = .ok (.ldc 89, 2) := by decide +kernel
theorem dL_law_404 : decode cL_law 404 = .ok (.if_icmp .eq 33, 3) := by decide +kernel
theorem dL_law_407 : decode cL_law 407 = .ok (.aload 10, 2) := by decide +kernel
theorem dL_law_409 : decode cL_law 409 = .ok (.iload 11, 2) := by decide +kernel
theorem dL_law_411 : decode cL_law 411 = .ok (.aaload, 1) := by decide +kernel
theorem dL_law_412 : decode cL_law 412 = .ok (.iload 13, 2) := by decide +kernel
theorem dL_law_414 : decode cL_law 414 = .ok (.iaload, 1) := by decide +kernel
theorem dL_law_415 : decode cL_law 415 = .ok (.aload 10, 2) := by decide +kernel
theorem dL_law_417 : decode cL_law 417 = .ok (.iload 11, 2) := by decide +kernel
theorem dL_law_419 : decode cL_law 419 = .ok (.aaload, 1) := by decide +kernel
theorem dL_law_420 : decode cL_law 420 = .ok (.iload 12, 2) := by decide +kernel
theorem dL_law_422 : decode cL_law 422 = .ok (.iaload, 1) := by decide +kernel
theorem dL_law_423 : decode cL_law 423 = .ok (.aload 10, 2) := by decide +kernel
theorem dL_law_425 : decode cL_law 425 = .ok (.iload 12, 2) := by decide +kernel
theorem dL_law_427 : decode cL_law 427 = .ok (.aaload, 1) := by decide +kernel
theorem dL_law_428 : decode cL_law 428 = .ok (.iload 13, 2) := by decide +kernel
theorem dL_law_430 : decode cL_law 430 = .ok (.iaload, 1) := by decide +kernel
theorem dL_law_431 : decode cL_law 431 = .ok (.iadd, 1) := by decide +kernel
theorem dL_law_432 : decode cL_law 432 = .ok (.if_icmp .le 5, 3) := by decide +kernel
theorem dL_law_435 : decode cL_law 435 = .ok (.iconst 0, 1) := by decide +kernel
theorem dL_law_436 : decode cL_law 436 = .ok (.ireturn, 1) := by decide +kernel
theorem dL_law_437 : decode cL_law 437 = .ok (.iinc 13 1, 3) := by decide +kernel
theorem dL_law_440 : decode cL_law 440 = .ok (.goto (-66), 3) := by decide +kernel
theorem dL_law_443 : decode cL_law 443 = .ok (.iinc 12 1, 3) := by decide +kernel
theorem dL_law_446 : decode cL_law 446 = .ok (.goto (-82), 3) := by decide +kernel
theorem dL_law_449 : decode cL_law 449 = .ok (.iinc 11 1, 3) := by decide +kernel
theorem dL_law_452 : decode cL_law 452 = .ok (.goto (-98), 3) := by decide +kernel
theorem dL_law_455 : decode cL_law 455 = .ok (.iconst 0, 1) := by decide +kernel
theorem dL_law_456 : decode cL_law 456 = .ok (.istore 11, 2) := by decide +kernel
theorem dL_law_458 : decode cL_law 458 = .ok (.iload 11, 2) := by decide +kernel
theorem dL_law_460 : decode cL_law 460 = .ok (.iload 6, 2) := by decide +kernel
theorem dL_law_462 : decode cL_law 462 = .ok (.if_icmp .ge 149, 3) := by decide +kernel
theorem dL_law_465 : decode cL_law 465 = .ok (.aload_n 1, 1) := by decide +kernel
theorem dL_law_466 : decode cL_law 466 = .ok (.iload 11, 2) := by decide +kernel
theorem dL_law_468 : decode cL_law 468 = .ok (.iconst 3, 1) := by decide +kernel
theorem dL_law_469 : decode cL_law 469 = .ok (.invokevirtual 90, 3) := by decide +kernel
theorem dL_law_472 : decode cL_law 472 = .ok (.ifCond .ne 6, 3) := by decide +kernel
theorem dL_law_475 : decode cL_law 475 = .ok (.goto 130, 3) := by decide +kernel
theorem dL_law_478 : decode cL_law 478 = .ok (.aload_n 1, 1) := by decide +kernel
theorem dL_law_479 : decode cL_law 479 = .ok (.iload 11, 2) := by decide +kernel
theorem dL_law_481 : decode cL_law 481 = .ok (.iconst 2, 1) := by decide +kernel
theorem dL_law_482 : decode cL_law 482 = .ok (.invokevirtual 90, 3) := by decide +kernel
theorem dL_law_485 : decode cL_law 485 = .ok (.istore 12, 2) := by decide +kernel
theorem dL_law_487 : decode cL_law 487 = .ok (.aload_n 1, 1) := by decide +kernel
theorem dL_law_488 : decode cL_law 488 = .ok (.iload 11, 2) := by decide +kernel
theorem dL_law_490 : decode cL_law 490 = .ok (.invokevirtual 93, 3) := by decide +kernel
theorem dL_law_493 : decode cL_law 493 = .ok (.istore 13, 2) := by decide +kernel
theorem dL_law_495 : decode cL_law 495 = .ok (.iload 13, 2) := by decide +kernel
theorem dL_law_497 : decode cL_law 497 = .ok (.iload 12, 2) := by decide +kernel
theorem dL_law_499 : decode cL_law 499 = .ok (.if_icmp .gt 33, 3) := by decide +kernel
theorem dL_law_502 : decode cL_law 502 = .ok (.iload 13, 2) := by decide +kernel
theorem dL_law_504 : decode cL_law 504 = .ok (.bipush (-99), 2) := by decide +kernel
theorem dL_law_506 : decode cL_law 506 = .ok (.if_icmp .lt 26, 3) := by decide +kernel
theorem dL_law_509 : decode cL_law 509 = .ok (.aload 10, 2) := by decide +kernel
theorem dL_law_511 : decode cL_law 511 = .ok (.aload_n 1, 1) := by decide +kernel
theorem dL_law_512 : decode cL_law 512 = .ok (.iload 11, 2) := by decide +kernel
theorem dL_law_514 : decode cL_law 514 = .ok (.iconst 0, 1) := by decide +kernel
theorem dL_law_515 : decode cL_law 515 = .ok (.invokevirtual 90, 3) := by decide +kernel
theorem dL_law_518 : decode cL_law 518 = .ok (.aaload, 1) := by decide +kernel
theorem dL_law_519 : decode cL_law 519 = .ok (.aload_n 1, 1) := by decide +kernel
theorem dL_law_520 : decode cL_law 520 = .ok (.iload 11, 2) := by decide +kernel
theorem dL_law_522 : decode cL_law 522 = .ok (.iconst 1, 1) := by decide +kernel
theorem dL_law_523 : decode cL_law 523 = .ok (.invokevirtual 90, 3) := by decide +kernel
theorem dL_law_526 : decode cL_law 526 = .ok (.iaload, 1) := by decide +kernel
theorem dL_law_527 : decode cL_law 527 = .ok (.iload 12, 2) := by decide +kernel
theorem dL_law_529 : decode cL_law 529 = .ok (.if_icmp .le 5, 3) := by decide +kernel
theorem dL_law_532 : decode cL_law 532 = .ok (.iconst 0, 1) := by decide +kernel
theorem dL_law_533 : decode cL_law 533 = .ok (.ireturn, 1) := by decide +kernel
theorem dL_law_534 : decode cL_law 534 = .ok (.aload_n 1, 1) := by decide +kernel
theorem dL_law_535 : decode cL_law 535 = .ok (.iload 11, 2) := by decide +kernel
theorem dL_law_537 : decode cL_law 537 = .ok (.iload 13, 2) := by decide +kernel
theorem dL_law_539 : decode cL_law 539 = .ok (.invokevirtual 31, 3) := by decide +kernel
theorem dL_law_542 : decode cL_law 542 = .ok (.iload 12, 2) := by decide +kernel
theorem dL_law_544 : decode cL_law 544 = .ok (.if_icmp .ne 10, 3) := by decide +kernel
theorem dL_law_547 : decode cL_law 547 = .ok (.aload_n 1, 1) := by decide +kernel
theorem dL_law_548 : decode cL_law 548 = .ok (.invokevirtual 75, 3) := by decide +kernel
theorem dL_law_551 : decode cL_law 551 = .ok (.ifCond .ne 5, 3) := by decide +kernel
theorem dL_law_554 : decode cL_law 554 = .ok (.iconst 0, 1) := by decide +kernel
theorem dL_law_555 : decode cL_law 555 = .ok (.ireturn, 1) := by decide +kernel
theorem dL_law_556 : decode cL_law 556 = .ok (.iload 13, 2) := by decide +kernel
theorem dL_law_558 : decode cL_law 558 = .ok (.bipush (-99), 2) := by decide +kernel
theorem dL_law_560 : decode cL_law 560 = .ok (.if_icmp .le 27, 3) := by decide +kernel
theorem dL_law_563 : decode cL_law 563 = .ok (.aload_n 1, 1) := by decide +kernel
theorem dL_law_564 : decode cL_law 564 = .ok (.iload 11, 2) := by decide +kernel
theorem dL_law_566 : decode cL_law 566 = .ok (.iload 13, 2) := by decide +kernel
theorem dL_law_568 : decode cL_law 568 = .ok (.iconst 1, 1) := by decide +kernel
theorem dL_law_569 : decode cL_law 569 = .ok (.isub, 1) := by decide +kernel
theorem dL_law_570 : decode cL_law 570 = .ok (.invokevirtual 31, 3) := by decide +kernel
theorem dL_law_573 : decode cL_law 573 = .ok (.iload 13, 2) := by decide +kernel
theorem dL_law_575 : decode cL_law 575 = .ok (.if_icmp .ne 10, 3) := by decide +kernel
theorem dL_law_578 : decode cL_law 578 = .ok (.aload_n 1, 1) := by decide +kernel
theorem dL_law_579 : decode cL_law 579 = .ok (.invokevirtual 75, 3) := by decide +kernel
theorem dL_law_582 : decode cL_law 582 = .ok (.ifCond .eq 5, 3) := by decide +kernel
theorem dL_law_585 : decode cL_law 585 = .ok (.iconst 0, 1) := by decide +kernel
theorem dL_law_586 : decode cL_law 586 = .ok (.ireturn, 1) := by decide +kernel
theorem dL_law_587 : decode cL_law 587 = .ok (.aload_n 1, 1) := by decide +kernel
theorem dL_law_588 : decode cL_law 588 = .ok (.iload 11, 2) := by decide +kernel
theorem dL_law_590 : decode cL_law 590 = .ok (.iload 12, 2) := by decide +kernel
theorem dL_law_592 : decode cL_law 592 = .ok (.invokevirtual 31, 3) := by decide +kernel
theorem dL_law_595 : decode cL_law 595 = .ok (.pop, 1) := by decide +kernel
theorem dL_law_596 : decode cL_law 596 = .ok (.aload_n 1, 1) := by decide +kernel
theorem dL_law_597 : decode cL_law 597 = .ok (.invokevirtual 75, 3) := by decide +kernel
theorem dL_law_600 : decode cL_law 600 = .ok (.ifCond .ne 5, 3) := by decide +kernel
theorem dL_law_603 : decode cL_law 603 = .ok (.iconst 0, 1) := by decide +kernel
theorem dL_law_604 : decode cL_law 604 = .ok (.ireturn, 1) := by decide +kernel
theorem dL_law_605 : decode cL_law 605 = .ok (.iinc 11 1, 3) := by decide +kernel
theorem dL_law_608 : decode cL_law 608 = .ok (.goto (-150), 3) := by decide +kernel
theorem dL_law_611 : decode cL_law 611 = .ok (.iload 4, 2) := by decide +kernel
theorem dL_law_613 : decode cL_law 613 = .ok (.iconst 3, 1) := by decide +kernel
theorem dL_law_614 : decode cL_law 614 = .ok (.invokestatic 19, 3) := by decide +kernel
theorem dL_law_617 : decode cL_law 617 = .ok (.ifCond .le 6, 3) := by decide +kernel
theorem dL_law_620 : decode cL_law 620 = .ok (.goto 239, 3) := by decide +kernel
theorem dL_law_623 : decode cL_law 623 = .ok (.iload 5, 2) := by decide +kernel
theorem dL_law_625 : decode cL_law 625 = .ok (.newarray .int, 2) := by decide +kernel
theorem dL_law_627 : decode cL_law 627 = .ok (.astore 11, 2) := by decide +kernel
theorem dL_law_629 : decode cL_law 629 = .ok (.iconst 0, 1) := by decide +kernel
theorem dL_law_630 : decode cL_law 630 = .ok (.istore 12, 2) := by decide +kernel
theorem dL_law_632 : decode cL_law 632 = .ok (.iload 12, 2) := by decide +kernel
theorem dL_law_634 : decode cL_law 634 = .ok (.iload 5, 2) := by decide +kernel
theorem dL_law_636 : decode cL_law 636 = .ok (.if_icmp .ge 21, 3) := by decide +kernel
theorem dL_law_639 : decode cL_law 639 = .ok (.aload 11, 2) := by decide +kernel
theorem dL_law_641 : decode cL_law 641 = .ok (.iload 12, 2) := by decide +kernel
theorem dL_law_643 : decode cL_law 643 = .ok (.aload_n 1, 1) := by decide +kernel
theorem dL_law_644 : decode cL_law 644 = .ok (.iload 12, 2) := by decide +kernel
theorem dL_law_646 : decode cL_law 646 = .ok (.iconst 2, 1) := by decide +kernel
theorem dL_law_647 : decode cL_law 647 = .ok (.invokevirtual 83, 3) := by decide +kernel
theorem dL_law_650 : decode cL_law 650 = .ok (.iastore, 1) := by decide +kernel
theorem dL_law_651 : decode cL_law 651 = .ok (.iinc 12 1, 3) := by decide +kernel
theorem dL_law_654 : decode cL_law 654 = .ok (.goto (-22), 3) := by decide +kernel
theorem dL_law_657 : decode cL_law 657 = .ok (.iconst 0, 1) := by decide +kernel
theorem dL_law_658 : decode cL_law 658 = .ok (.istore 12, 2) := by decide +kernel
theorem dL_law_660 : decode cL_law 660 = .ok (.iconst 0, 1) := by decide +kernel
theorem dL_law_661 : decode cL_law 661 = .ok (.istore 13, 2) := by decide +kernel
theorem dL_law_663 : decode cL_law 663 = .ok (.iload 13, 2) := by decide +kernel
theorem dL_law_665 : decode cL_law 665 = .ok (.iload 6, 2) := by decide +kernel
theorem dL_law_667 : decode cL_law 667 = .ok (.if_icmp .ge 36, 3) := by decide +kernel
theorem dL_law_670 : decode cL_law 670 = .ok (.iload 12, 2) := by decide +kernel
theorem dL_law_672 : decode cL_law 672 = .ok (.aload_n 1, 1) := by decide +kernel
theorem dL_law_673 : decode cL_law 673 = .ok (.iload 13, 2) := by decide +kernel
theorem dL_law_675 : decode cL_law 675 = .ok (.iconst 3, 1) := by decide +kernel
theorem dL_law_676 : decode cL_law 676 = .ok (.invokevirtual 90, 3) := by decide +kernel
theorem dL_law_679 : decode cL_law 679 = .ok (.iconst 1, 1) := by decide +kernel
theorem dL_law_680 : decode cL_law 680 = .ok (.if_icmp .ne 13, 3) := by decide +kernel
theorem dL_law_683 : decode cL_law 683 = .ok (.aload_n 1, 1) := by decide +kernel
theorem dL_law_684 : decode cL_law 684 = .ok (.iload 13, 2) := by decide +kernel
theorem dL_law_686 : decode cL_law 686 = .ok (.iconst 2, 1) := by decide +kernel
theorem dL_law_687 : decode cL_law 687 = .ok (.invokevirtual 90, 3) := by decide +kernel
theorem dL_law_690 : decode cL_law 690 = .ok (.goto 4, 3) := by decide +kernel
theorem dL_law_693 : decode cL_law 693 = .ok (.iconst 0, 1) := by decide +kernel
theorem dL_law_694 : decode cL_law 694 = .ok (.iadd, 1) := by decide +kernel
theorem dL_law_695 : decode cL_law 695 = .ok (.istore 12, 2) := by decide +kernel
theorem dL_law_697 : decode cL_law 697 = .ok (.iinc 13 1, 3) := by decide +kernel
theorem dL_law_700 : decode cL_law 700 = .ok (.goto (-37), 3) := by decide +kernel
theorem dL_law_703 : decode cL_law 703 = .ok (.aload_n 1, 1) := by decide +kernel
theorem dL_law_704 : decode cL_law 704 = .ok (.invokevirtual 46, 3) := by decide +kernel
theorem dL_law_707 : decode cL_law 707 = .ok (.istore 13, 2) := by decide +kernel
theorem dL_law_709 : decode cL_law 709 = .ok (.iconst 0, 1) := by decide +kernel
theorem dL_law_710 : decode cL_law 710 = .ok (.istore 14, 2) := by decide +kernel
theorem dL_law_712 : decode cL_law 712 = .ok (.iconst 0, 1) := by decide +kernel
theorem dL_law_713 : decode cL_law 713 = .ok (.istore 15, 2) := by decide +kernel
theorem dL_law_715 : decode cL_law 715 = .ok (.iload 15, 2) := by decide +kernel
theorem dL_law_717 : decode cL_law 717 = .ok (.iload 6, 2) := by decide +kernel
theorem dL_law_719 : decode cL_law 719 = .ok (.if_icmp .ge 81, 3) := by decide +kernel
theorem dL_law_722 : decode cL_law 722 = .ok (.iload 14, 2) := by decide +kernel
theorem dL_law_724 : decode cL_law 724 = .ok (.aload_n 1, 1) := by decide +kernel
theorem dL_law_725 : decode cL_law 725 = .ok (.iload 15, 2) := by decide +kernel
theorem dL_law_727 : decode cL_law 727 = .ok (.iconst 3, 1) := by decide +kernel
theorem dL_law_728 : decode cL_law 728 = .ok (.invokevirtual 90, 3) := by decide +kernel
theorem dL_law_731 : decode cL_law 731 = .ok (.iconst 1, 1) := by decide +kernel
theorem dL_law_732 : decode cL_law 732 = .ok (.if_icmp .ne 13, 3) := by decide +kernel
theorem dL_law_735 : decode cL_law 735 = .ok (.aload_n 1, 1) := by decide +kernel
theorem dL_law_736 : decode cL_law 736 = .ok (.iload 15, 2) := by decide +kernel
theorem dL_law_738 : decode cL_law 738 = .ok (.iconst 2, 1) := by decide +kernel
theorem dL_law_739 : decode cL_law 739 = .ok (.invokevirtual 90, 3) := by decide +kernel
theorem dL_law_742 : decode cL_law 742 = .ok (.goto 4, 3) := by decide +kernel
theorem dL_law_745 : decode cL_law 745 = .ok (.iconst 0, 1) := by decide +kernel
theorem dL_law_746 : decode cL_law 746 = .ok (.iadd, 1) := by decide +kernel
theorem dL_law_747 : decode cL_law 747 = .ok (.istore 14, 2) := by decide +kernel
theorem dL_law_749 : decode cL_law 749 = .ok (.aload_n 1, 1) := by decide +kernel
theorem dL_law_750 : decode cL_law 750 = .ok (.iload 15, 2) := by decide +kernel
theorem dL_law_752 : decode cL_law 752 = .ok (.iconst 3, 1) := by decide +kernel
theorem dL_law_753 : decode cL_law 753 = .ok (.invokevirtual 90, 3) := by decide +kernel
theorem dL_law_756 : decode cL_law 756 = .ok (.iconst 1, 1) := by decide +kernel
theorem dL_law_757 : decode cL_law 757 = .ok (.if_icmp .ne 21, 3) := by decide +kernel
theorem dL_law_760 : decode cL_law 760 = .ok (.aload_n 1, 1) := by decide +kernel
theorem dL_law_761 : decode cL_law 761 = .ok (.iload 15, 2) := by decide +kernel
theorem dL_law_763 : decode cL_law 763 = .ok (.invokevirtual 93, 3) := by decide +kernel
theorem dL_law_766 : decode cL_law 766 = .ok (.aload_n 1, 1) := by decide +kernel
theorem dL_law_767 : decode cL_law 767 = .ok (.iload 15, 2) := by decide +kernel
theorem dL_law_769 : decode cL_law 769 = .ok (.iconst 2, 1) := by decide +kernel
theorem dL_law_770 : decode cL_law 770 = .ok (.invokevirtual 90, 3) := by decide +kernel
theorem dL_law_773 : decode cL_law 773 = .ok (.if_icmp .eq 5, 3) := by decide +kernel
theorem dL_law_776 : decode cL_law 776 = .ok (.iconst 0, 1) := by decide +kernel
theorem dL_law_777 : decode cL_law 777 = .ok (.ireturn, 1) := by decide +kernel
theorem dL_law_778 : decode cL_law 778 = .ok (.aload_n 2, 1) := by decide +kernel
theorem dL_law_779 : decode cL_law 779 = .ok (.getfield 15, 3) := by decide +kernel
theorem dL_law_782 : decode cL_law 782 = .ok (.iload 15, 2) := by decide +kernel
theorem dL_law_784 : decode cL_law 784 = .ok (.aaload, 1) := by decide +kernel
theorem dL_law_785 : decode cL_law 785 = .ok (.iconst 2, 1) := by decide +kernel
theorem dL_law_786 : decode cL_law 786 = .ok (.aload_n 1, 1) := by decide +kernel
theorem dL_law_787 : decode cL_law 787 = .ok (.iload 15, 2) := by decide +kernel
theorem dL_law_789 : decode cL_law 789 = .ok (.iconst 2, 1) := by decide +kernel
theorem dL_law_790 : decode cL_law 790 = .ok (.invokevirtual 90, 3) := by decide +kernel
theorem dL_law_793 : decode cL_law 793 = .ok (.iastore, 1) := by decide +kernel
theorem dL_law_794 : decode cL_law 794 = .ok (.iinc 15 1, 3) := by decide +kernel
theorem dL_law_797 : decode cL_law 797 = .ok (.goto (-82), 3) := by decide +kernel
theorem dL_law_800 : decode cL_law 800 = .ok (.iload 13, 2) := by decide +kernel
theorem dL_law_802 : decode cL_law 802 = .ok (.iload 12, 2) := by decide +kernel
theorem dL_law_804 : decode cL_law 804 = .ok (.iload 14, 2) := by decide +kernel
theorem dL_law_806 : decode cL_law 806 = .ok (.isub, 1) := by decide +kernel
theorem dL_law_807 : decode cL_law 807 = .ok (.if_icmp .ne 17, 3) := by decide +kernel
theorem dL_law_810 : decode cL_law 810 = .ok (.aload_n 1, 1) := by decide +kernel
theorem dL_law_811 : decode cL_law 811 = .ok (.invokevirtual 75, 3) := by decide +kernel
theorem dL_law_814 : decode cL_law 814 = .ok (.ifCond .eq 10, 3) := by decide +kernel
theorem dL_law_817 : decode cL_law 817 = .ok (.aload_n 1, 1) := by decide +kernel
theorem dL_law_818 : decode cL_law 818 = .ok (.invokevirtual 46, 3) := by decide +kernel
theorem dL_law_821 : decode cL_law 821 = .ok (.ifCond .eq 5, 3) := by decide +kernel
theorem dL_law_824 : decode cL_law 824 = .ok (.iconst 0, 1) := by decide +kernel
theorem dL_law_825 : decode cL_law 825 = .ok (.ireturn, 1) := by decide +kernel
theorem dL_law_826 : decode cL_law 826 = .ok (.iconst 0, 1) := by decide +kernel
theorem dL_law_827 : decode cL_law 827 = .ok (.istore 15, 2) := by decide +kernel
theorem dL_law_829 : decode cL_law 829 = .ok (.iload 15, 2) := by decide +kernel
theorem dL_law_831 : decode cL_law 831 = .ok (.iload 5, 2) := by decide +kernel
theorem dL_law_833 : decode cL_law 833 = .ok (.if_icmp .ge 26, 3) := by decide +kernel
theorem dL_law_836 : decode cL_law 836 = .ok (.aload_n 1, 1) := by decide +kernel
theorem dL_law_837 : decode cL_law 837 = .ok (.iload 15, 2) := by decide +kernel
theorem dL_law_839 : decode cL_law 839 = .ok (.iconst 2, 1) := by decide +kernel
theorem dL_law_840 : decode cL_law 840 = .ok (.invokevirtual 83, 3) := by decide +kernel
theorem dL_law_843 : decode cL_law 843 = .ok (.aload 11, 2) := by decide +kernel
theorem dL_law_845 : decode cL_law 845 = .ok (.iload 15, 2) := by decide +kernel
theorem dL_law_847 : decode cL_law 847 = .ok (.iaload, 1) := by decide +kernel
theorem dL_law_848 : decode cL_law 848 = .ok (.if_icmp .ge 5, 3) := by decide +kernel
theorem dL_law_851 : decode cL_law 851 = .ok (.iconst 0, 1) := by decide +kernel
theorem dL_law_852 : decode cL_law 852 = .ok (.ireturn, 1) := by decide +kernel
theorem dL_law_853 : decode cL_law 853 = .ok (.iinc 15 1, 3) := by decide +kernel
theorem dL_law_856 : decode cL_law 856 = .ok (.goto (-27), 3) := by decide +kernel
theorem dL_law_859 : decode cL_law 859 = .ok (.iinc 3 1, 3) := by decide +kernel
theorem dL_law_862 : decode cL_law 862 = .ok (.goto (-840), 3) := by decide +kernel
theorem dL_law_865 : decode cL_law 865 = .ok (.aload_n 2, 1) := by decide +kernel
theorem dL_law_866 : decode cL_law 866 = .ok (.aload_n 1, 1) := by decide +kernel
theorem dL_law_867 : decode cL_law 867 = .ok (.invokevirtual 94, 3) := by decide +kernel
theorem dL_law_870 : decode cL_law 870 = .ok (.ireturn, 1) := by decide +kernel
abbrev vwCl : List vw_C := [(RX0, TX0, 12), (RX1, TX1, 2)]
