set_option maxRecDepth 20000 in
theorem ggL_law_X0_init : GoodIn wsL_law wsX0_init := goodIn_r _ [9, 10, 11, 12, 4, 13, 14, 15, 16, 17, 18, 19, 20, 21, 22, 23, 24, 25, 2, 26, 27, 28, 29, 30, 31, 32, 33, 34, 35, 36, 37, 38, 39, 40, 41, 42, 43, 44, 45, 46, 47, 48, 49, 50, 51, 52, 53, 54, 55, 56, 57, 58, 59, 60, 61, 62, 63, 64, 65, 66, 266, 267, 268, 269, 270, 271, 272, 273, 274, 275, 276, 277] (by decide +kernel) (by decide +kernel)
set_option maxRecDepth 20000 in
theorem gL_law_X0_init : GoodIn wsL_law (wsX0_init) := ggL_law_X0_init
theorem ggL_law_L_build_c : GoodIn wsL_law [.code yL_build cL_build 6 (some (.object "RopeTimesLaw$Sim"))] := goodIn_r _ [70] (by decide +kernel) (by decide +kernel)
set_option maxRecDepth 20000 in
theorem ggL_law_L_build_1 : GoodIn wsL_law wsL_build_r1 := goodIn_r _ [71, 72, 73, 74, 75, 76, 77, 11, 12, 78, 79, 80, 81, 69, 82, 83, 84, 85, 86, 87, 88, 89, 90, 2] (by decide +kernel) (by decide +kernel)
set_option maxRecDepth 20000 in
theorem ggL_law_L_build_2 : GoodIn wsL_law wsL_build_r2 := goodIn_r _ [91, 92, 93, 32, 23, 24, 25, 26, 18, 27, 28, 29, 30, 31, 33, 34, 35, 36, 37, 17, 14, 15, 13, 38] (by decide +kernel) (by decide +kernel)
set_option maxRecDepth 20000 in
theorem ggL_law_L_build_3 : GoodIn wsL_law wsL_build_r3 := goodIn_r _ [39, 40, 41, 42, 43, 44, 45, 46, 47, 48, 49, 50, 19, 51, 52, 53, 54, 55, 56, 57, 58, 59, 60, 61] (by decide +kernel) (by decide +kernel)
set_option maxRecDepth 20000 in
theorem ggL_law_L_build_4 : GoodIn wsL_law wsL_build_r4 := goodIn_r _ [62, 63, 64, 65, 66, 94, 95, 96, 6, 97, 4, 98, 99, 100, 101, 102, 103, 104, 105, 106, 107, 108, 109, 110] (by decide +kernel) (by decide +kernel)
set_option maxRecDepth 20000 in
theorem ggL_law_L_build_5 : GoodIn wsL_law wsL_build_r5 := goodIn_r _ [111, 112, 113, 114, 115, 116, 117, 118, 119, 120, 121, 122, 123, 124, 125, 126, 127, 128, 129, 130, 131, 132, 133, 134] (by decide +kernel) (by decide +kernel)
set_option maxRecDepth 20000 in
theorem ggL_law_L_build_6 : GoodIn wsL_law wsL_build_r6 := goodIn_r _ [135, 136, 137, 138, 139, 140, 141, 142, 143, 144, 145, 146, 147, 148, 149, 150, 151, 152, 153, 154, 155, 156, 157, 158] (by decide +kernel) (by decide +kernel)
set_option maxRecDepth 20000 in
theorem ggL_law_L_build_7 : GoodIn wsL_law wsL_build_r7 := goodIn_r _ [159, 160, 161, 162, 163, 164, 165] (by decide +kernel) (by decide +kernel)
theorem ggL_law_L_build : GoodIn wsL_law wsL_build := goodIn_ca (goodIn_ca (goodIn_ca (goodIn_ca (goodIn_ca (goodIn_cc ggL_law_L_build_c (goodIn_app ggL_law_L_build_1 (goodIn_app ggL_law_L_build_2 (goodIn_app ggL_law_L_build_3 (goodIn_app ggL_law_L_build_4 (goodIn_app ggL_law_L_build_5 (goodIn_app ggL_law_L_build_6 ggL_law_L_build_7))))))) (goodIn_sub inlX1 (by decide +kernel))) (goodIn_sub inlX0 (by decide +kernel))) (goodIn_sub (fun _ h => List.mem_append_left _ (List.mem_append_left _ (List.mem_append_right _ h))) (by decide +kernel))) (goodIn_sub (fun _ h => List.mem_append_left _ (List.mem_append_right _ h)) (by decide +kernel))) (goodIn_sub (fun _ h => List.mem_append_right _ h) (by decide +kernel))
set_option maxRecDepth 20000 in
theorem gL_law_L_build : GoodIn wsL_law (va_wsS RL 65 yL_build wsL_build) := goodIn_app (goodIn_of _ (by decide +kernel)) ggL_law_L_build
set_option maxRecDepth 20000 in
theorem ggL_law_L_cell : GoodIn wsL_law wsL_cell := goodIn_r _ [82, 83] (by decide +kernel) (by decide +kernel)
set_option maxRecDepth 20000 in
theorem gL_law_L_cell : GoodIn wsL_law (va_wsS RL 56 yL_cell wsL_cell) := goodIn_app (goodIn_of _ (by decide +kernel)) ggL_law_L_cell
theorem ggL_law_L_act_c : GoodIn wsL_law [.code yL_act cL_act 13 (some .boolean)] := goodIn_r _ [96] (by decide +kernel) (by decide +kernel)
set_option maxRecDepth 20000 in
theorem ggL_law_L_act_1 : GoodIn wsL_law wsL_act_r1 := goodIn_r _ [74, 6, 97, 4, 84, 85, 69, 86, 87, 88, 89, 90, 2, 91, 92, 93, 32, 23, 24, 25, 26, 18, 27, 28] (by decide +kernel) (by decide +kernel)
set_option maxRecDepth 20000 in
theorem ggL_law_L_act_2 : GoodIn wsL_law wsL_act_r2 := goodIn_r _ [29, 30, 31, 33, 34, 35, 36, 37, 17, 14, 15, 13, 38, 39, 40, 41, 42, 43, 44, 45, 46, 47, 48, 49] (by decide +kernel) (by decide +kernel)
set_option maxRecDepth 20000 in
theorem ggL_law_L_act_3 : GoodIn wsL_law wsL_act_r3 := goodIn_r _ [50, 19, 51, 52, 53, 54, 55, 56, 57, 58, 59, 60, 61, 62, 63, 64, 65, 66, 98, 99, 100, 101, 102, 103] (by decide +kernel) (by decide +kernel)
set_option maxRecDepth 20000 in
theorem ggL_law_L_act_4 : GoodIn wsL_law wsL_act_r4 := goodIn_r _ [104, 105, 106, 107, 108, 109, 110, 111, 112, 113, 114, 115, 116, 117, 118, 119, 73, 120, 121, 122, 123, 79, 124, 125] (by decide +kernel) (by decide +kernel)
set_option maxRecDepth 20000 in
theorem ggL_law_L_act_5 : GoodIn wsL_law wsL_act_r5 := goodIn_r _ [126, 127, 128, 129, 130, 131, 132, 72, 78, 133, 134, 135, 136, 137, 138, 75, 76, 77, 11, 12, 139, 140, 141, 142] (by decide +kernel) (by decide +kernel)
set_option maxRecDepth 20000 in
theorem ggL_law_L_act_6 : GoodIn wsL_law wsL_act_r6 := goodIn_r _ [143, 144, 145, 146, 147, 148, 149, 150, 151, 152, 153, 154, 155, 156, 157, 158, 159, 160, 161, 162, 163, 164, 165] (by decide +kernel) (by decide +kernel)
theorem ggL_law_L_act : GoodIn wsL_law wsL_act := goodIn_ca (goodIn_ca (goodIn_ca (goodIn_ca (goodIn_ca (goodIn_cc ggL_law_L_act_c (goodIn_app ggL_law_L_act_1 (goodIn_app ggL_law_L_act_2 (goodIn_app ggL_law_L_act_3 (goodIn_app ggL_law_L_act_4 (goodIn_app ggL_law_L_act_5 ggL_law_L_act_6)))))) (goodIn_sub inlX1 (by decide +kernel))) (goodIn_sub inlX0 (by decide +kernel))) (goodIn_sub (fun _ h => List.mem_append_left _ (List.mem_append_left _ (List.mem_append_right _ h))) (by decide +kernel))) (goodIn_sub (fun _ h => List.mem_append_left _ (List.mem_append_right _ h)) (by decide +kernel))) (goodIn_sub (fun _ h => List.mem_append_right _ h) (by decide +kernel))
set_option maxRecDepth 20000 in
theorem gL_law_L_act : GoodIn wsL_law (va_wsS RL 60 yL_act wsL_act) := goodIn_app (goodIn_of _ (by decide +kernel)) ggL_law_L_act
set_option maxRecDepth 20000 in
theorem ggL_law_X0_count : GoodIn wsL_law wsX0_count := goodIn_ca (goodIn_r _ [169, 32, 37, 27, 18, 170, 171, 2, 172, 106, 107, 173, 174, 175, 176, 17, 38, 39, 40, 41, 177, 178, 179, 180, 152, 153, 57, 154, 181, 182, 183, 184, 185, 186, 187, 188, 14, 13, 15, 189, 190, 191, 192, 193, 194, 195, 196, 21, 46, 197, 198, 199, 200, 22, 55, 56, 58, 266, 267, 268, 269, 270, 271, 272, 273, 274, 275, 276, 277] (by decide +kernel) (by decide +kernel)) (goodIn_sub (fun _ h => List.mem_append_left _ (List.mem_append_right _ h)) (by decide +kernel))
set_option maxRecDepth 20000 in
theorem gL_law_X0_count : GoodIn wsL_law (wsV RL 69 RX0 yX0_count wsX0_count) := goodIn_app (goodIn_of _ (by decide +kernel)) ggL_law_X0_count
set_option maxRecDepth 20000 in
theorem ggL_law_X0_advise : GoodIn wsL_law wsX0_advise := goodIn_r _ [204, 18, 46, 37, 17, 20, 38, 39, 40, 2, 41, 27, 177, 178, 179, 180, 32, 152, 153, 57, 154, 28, 29, 30, 31, 33, 34, 35, 36, 14, 15, 13, 266, 267, 268, 269, 270, 271, 272, 273, 274, 275, 276, 277] (by decide +kernel) (by decide +kernel)
set_option maxRecDepth 20000 in
theorem gL_law_X0_advise : GoodIn wsL_law (wsV RL 72 RX0 yX0_advise wsX0_advise) := goodIn_app (goodIn_of _ (by decide +kernel)) ggL_law_X0_advise
set_option maxRecDepth 20000 in
theorem ggL_law_X0_knot : GoodIn wsL_law wsX0_knot := goodIn_ca (goodIn_r _ [116, 17, 102, 103, 104, 2, 105, 106, 107, 37, 23, 24, 25, 26, 18, 27, 28, 29, 30, 31, 32, 33, 34, 35, 36, 14, 15, 13, 38, 39, 40, 41, 42, 43, 44, 45, 46, 47, 48, 49, 50, 19, 51, 52, 53, 54, 55, 56, 57, 58, 59, 60, 61, 62, 63, 64, 65, 66, 266, 267, 268, 269, 270, 271, 272, 273, 274, 275, 276, 277] (by decide +kernel) (by decide +kernel)) (goodIn_sub (fun _ h => List.mem_append_left _ (List.mem_append_right _ h)) (by decide +kernel))
set_option maxRecDepth 20000 in
theorem gL_law_X0_knot : GoodIn wsL_law (wsV RL 34 RX0 yX0_knot wsX0_knot) := goodIn_app (goodIn_of _ (by decide +kernel)) ggL_law_X0_knot
set_option maxRecDepth 20000 in
theorem ggL_law_X0_holds : GoodIn wsL_law wsX0_holds := goodIn_r _ [208, 38, 39, 40, 2, 41, 27, 266, 267, 268, 269, 270, 271, 272, 273, 274, 275, 276, 277] (by decide +kernel) (by decide +kernel)
set_option maxRecDepth 20000 in
theorem gL_law_X0_holds : GoodIn wsL_law (wsV RL 75 RX0 yX0_holds wsX0_holds) := goodIn_app (goodIn_of _ (by decide +kernel)) ggL_law_X0_holds
set_option maxRecDepth 20000 in
theorem ggL_law_L_below : GoodIn wsL_law wsL_below := goodIn_r _ [86, 87] (by decide +kernel) (by decide +kernel)
set_option maxRecDepth 20000 in
theorem gL_law_L_below : GoodIn wsL_law (va_wsS RL 19 yL_below wsL_below) := goodIn_app (goodIn_of _ (by decide +kernel)) ggL_law_L_below
set_option maxRecDepth 20000 in
theorem ggL_law_X0_late : GoodIn wsL_law wsX0_late := goodIn_ca (goodIn_ca (goodIn_ca (goodIn_r _ [212, 111, 112, 92, 93, 18, 32, 46, 55, 56, 57, 58, 159, 160, 161, 2, 162, 106, 107, 213, 214, 215, 216, 38, 39, 40, 41, 27, 177, 178, 179, 180, 152, 153, 154, 59, 60, 61, 62, 19, 266, 267, 268, 269, 270, 271, 272, 273, 274, 275, 276, 277] (by decide +kernel) (by decide +kernel)) (goodIn_sub (fun _ h => List.mem_append_right _ h) (by decide +kernel))) (goodIn_sub (fun _ h => List.mem_append_left _ (List.mem_append_left _ (List.mem_append_right _ h))) (by decide +kernel))) (goodIn_sub (fun _ h => List.mem_append_left _ (List.mem_append_right _ h)) (by decide +kernel))
set_option maxRecDepth 20000 in
theorem gL_law_X0_late : GoodIn wsL_law (wsV RL 80 RX0 yX0_late wsX0_late) := goodIn_app (goodIn_of _ (by decide +kernel)) ggL_law_X0_late
set_option maxRecDepth 20000 in
theorem ggL_law_X0_about : GoodIn wsL_law wsX0_about := goodIn_ca (goodIn_r _ [220, 13, 14, 18, 159, 160, 161, 2, 162, 106, 107, 32, 170, 171, 172, 221, 222, 223, 224, 37, 17, 38, 39, 40, 41, 27, 266, 267, 268, 269, 270, 271, 272, 273, 274, 275, 276, 277] (by decide +kernel) (by decide +kernel)) (goodIn_sub (fun _ h => List.mem_append_left _ (List.mem_append_right _ h)) (by decide +kernel))
set_option maxRecDepth 20000 in
theorem gL_law_X0_about : GoodIn wsL_law (wsV RL 83 RX0 yX0_about wsX0_about) := goodIn_app (goodIn_of _ (by decide +kernel)) ggL_law_X0_about
set_option maxRecDepth 20000 in
theorem ggL_law_X0_most : GoodIn wsL_law wsX0_most := goodIn_ca (goodIn_ca (goodIn_r _ [228, 159, 160, 161, 2, 162, 106, 107, 32, 213, 214, 215, 216, 92, 93, 38, 39, 40, 41, 27, 59, 60, 61, 62, 19, 266, 267, 268, 269, 270, 271, 272, 273, 274, 275, 276, 277] (by decide +kernel) (by decide +kernel)) (goodIn_sub (fun _ h => List.mem_append_left _ (List.mem_append_right _ h)) (by decide +kernel))) (goodIn_sub (fun _ h => List.mem_append_left _ (List.mem_append_left _ (List.mem_append_right _ h))) (by decide +kernel))
set_option maxRecDepth 20000 in
theorem gL_law_X0_most : GoodIn wsL_law (wsV RL 86 RX0 yX0_most wsX0_most) := goodIn_app (goodIn_of _ (by decide +kernel)) ggL_law_X0_most
set_option maxRecDepth 20000 in
theorem ggL_law_X0_told : GoodIn wsL_law wsX0_told := goodIn_ca (goodIn_r _ [232, 13, 14, 15, 17, 102, 103, 104, 2, 105, 106, 107, 37, 170, 171, 172, 185, 186, 187, 188, 18, 38, 39, 40, 41, 27, 266, 267, 268, 269, 270, 271, 272, 273, 274, 275, 276, 277] (by decide +kernel) (by decide +kernel)) (goodIn_sub (fun _ h => List.mem_append_left _ (List.mem_append_right _ h)) (by decide +kernel))
set_option maxRecDepth 20000 in
theorem gL_law_X0_told : GoodIn wsL_law (wsV RL 90 RX0 yX0_told wsX0_told) := goodIn_app (goodIn_of _ (by decide +kernel)) ggL_law_X0_told
set_option maxRecDepth 20000 in
theorem ggL_law_X0_room : GoodIn wsL_law wsX0_room := goodIn_ca (goodIn_ca (goodIn_r _ [236, 92, 93, 17, 13, 14, 102, 103, 104, 2, 105, 106, 107, 37, 213, 214, 215, 216, 38, 39, 40, 41, 27, 148, 149, 150, 151, 46, 152, 153, 57, 154, 59, 60, 61, 62, 19, 266, 267, 268, 269, 270, 271, 272, 273, 274, 275, 276, 277] (by decide +kernel) (by decide +kernel)) (goodIn_sub (fun _ h => List.mem_append_left _ (List.mem_append_left _ (List.mem_append_right _ h))) (by decide +kernel))) (goodIn_sub (fun _ h => List.mem_append_left _ (List.mem_append_right _ h)) (by decide +kernel))
set_option maxRecDepth 20000 in
theorem gL_law_X0_room : GoodIn wsL_law (wsV RL 93 RX0 yX0_room wsX0_room) := goodIn_app (goodIn_of _ (by decide +kernel)) ggL_law_X0_room
set_option maxRecDepth 20000 in
theorem ggL_law_X0_cut : GoodIn wsL_law wsX0_cut := goodIn_ca (goodIn_ca (goodIn_r _ [101, 15, 102, 103, 104, 2, 105, 106, 107, 37, 108, 109, 110, 111, 112, 23, 24, 25, 26, 18, 27, 28, 29, 30, 31, 32, 33, 34, 35, 36, 17, 14, 13, 38, 39, 40, 41, 42, 43, 44, 45, 46, 47, 48, 49, 50, 19, 51, 52, 53, 54, 55, 56, 57, 58, 59, 60, 61, 62, 63, 64, 65, 66, 266, 267, 268, 269, 270, 271, 272, 273, 274, 275, 276, 277] (by decide +kernel) (by decide +kernel)) (goodIn_sub (fun _ h => List.mem_append_left _ (List.mem_append_right _ h)) (by decide +kernel))) (goodIn_sub (fun _ h => List.mem_append_right _ h) (by decide +kernel))
set_option maxRecDepth 20000 in
theorem gL_law_X0_cut : GoodIn wsL_law (wsV RL 31 RX0 yX0_cut wsX0_cut) := goodIn_app (goodIn_of _ (by decide +kernel)) ggL_law_X0_cut
set_option maxRecDepth 20000 in
theorem ggL_law_X0_tighten : GoodIn wsL_law wsX0_tighten := goodIn_r _ [143, 37, 17, 38, 39, 40, 2, 41, 27, 144, 145, 146, 147, 15, 13, 14, 148, 149, 150, 151, 46, 152, 153, 57, 154, 59, 60, 61, 62, 19, 23, 24, 25, 26, 18, 28, 29, 30, 31, 32, 33, 34, 35, 36, 42, 43, 44, 45, 47, 48, 49, 50, 51, 52, 53, 54, 55, 56, 58, 63, 64, 65, 66, 266, 267, 268, 269, 270, 271, 272, 273, 274, 275, 276, 277] (by decide +kernel) (by decide +kernel)
set_option maxRecDepth 20000 in
theorem gL_law_X0_tighten : GoodIn wsL_law (wsV RL 46 RX0 yX0_tighten wsX0_tighten) := goodIn_app (goodIn_of _ (by decide +kernel)) ggL_law_X0_tighten
theorem ggL_law_X1_isSame_c : GoodIn wsL_law [.code yX1_isSame cX1_isSame 13 (some .boolean)] := goodIn_r _ [240] (by decide +kernel) (by decide +kernel)
set_option maxRecDepth 20000 in
theorem ggL_law_X1_isSame_1 : GoodIn wsL_law wsX1_isSame_r1 := goodIn_r _ [79, 121, 4, 241, 242, 243, 73, 244, 245, 153, 57, 154, 139, 118, 119, 120, 122, 123, 246, 230, 231, 2, 232, 13] (by decide +kernel) (by decide +kernel)
set_option maxRecDepth 20000 in
theorem ggL_law_X1_isSame_2 : GoodIn wsL_law wsX1_isSame_r2 := goodIn_r _ [14, 15, 17, 102, 103, 104, 105, 106, 107, 37, 170, 171, 172, 185, 186, 187, 188, 18, 38, 39, 40, 41, 27, 247] (by decide +kernel) (by decide +kernel)
set_option maxRecDepth 20000 in
theorem ggL_law_X1_isSame_3 : GoodIn wsL_law wsX1_isSame_r3 := goodIn_r _ [218, 219, 220, 159, 160, 161, 162, 32, 221, 222, 223, 224, 248, 249, 250, 251, 252, 253, 254, 255, 256, 257, 258, 259] (by decide +kernel) (by decide +kernel)
set_option maxRecDepth 20000 in
theorem ggL_law_X1_isSame_4 : GoodIn wsL_law wsX1_isSame_r4 := goodIn_r _ [56, 58, 260, 167, 168, 169, 173, 174, 175, 176, 177, 178, 179, 180, 152, 181, 182, 183, 184, 189, 190, 191, 192, 193] (by decide +kernel) (by decide +kernel)
set_option maxRecDepth 20000 in
theorem ggL_law_X1_isSame_5 : GoodIn wsL_law wsX1_isSame_r5 := goodIn_r _ [194, 195, 196, 21, 46, 197, 198, 199, 200, 22, 55, 261, 206, 207, 208, 262, 263, 264, 265] (by decide +kernel) (by decide +kernel)
theorem ggL_law_X1_isSame : GoodIn wsL_law wsX1_isSame := goodIn_ca (goodIn_ca (goodIn_ca (goodIn_cc ggL_law_X1_isSame_c (goodIn_app ggL_law_X1_isSame_1 (goodIn_app ggL_law_X1_isSame_2 (goodIn_app ggL_law_X1_isSame_3 (goodIn_app ggL_law_X1_isSame_4 ggL_law_X1_isSame_5))))) (goodIn_sub inlX1 (by decide +kernel))) (goodIn_sub inlX0 (by decide +kernel))) (goodIn_sub (fun _ h => List.mem_append_left _ (List.mem_append_right _ h)) (by decide +kernel))
set_option maxRecDepth 20000 in
theorem gL_law_X1_isSame : GoodIn wsL_law (wsV RL 94 RX1 yX1_isSame wsX1_isSame) := goodIn_app (goodIn_of _ (by decide +kernel)) ggL_law_X1_isSame
