set_option maxRecDepth 20000 in
theorem ggL_build_X1_init : GoodIn wsL_build wsX1_init := goodIn_r _ [6, 7, 8, 9, 10, 11, 152, 153] (by decide +kernel) (by decide +kernel)
set_option maxRecDepth 20000 in
theorem gL_build_X1_init_n55 : GoodIn wsL_build (wsX1_init) := ggL_build_X1_init
set_option maxRecDepth 20000 in
theorem ggL_build_L_cell : GoodIn wsL_build wsL_cell := goodIn_r _ [15, 16] (by decide +kernel) (by decide +kernel)
set_option maxRecDepth 20000 in
theorem gL_build_L_cell : GoodIn wsL_build (va_wsS RL 56 yL_cell wsL_cell) := goodIn_app (goodIn_of _ (by decide +kernel)) ggL_build_L_cell
set_option maxRecDepth 20000 in
theorem ggL_build_L_below : GoodIn wsL_build wsL_below := goodIn_r _ [19, 20] (by decide +kernel) (by decide +kernel)
set_option maxRecDepth 20000 in
theorem gL_build_L_below : GoodIn wsL_build (va_wsS RL 19 yL_below wsL_below) := goodIn_app (goodIn_of _ (by decide +kernel)) ggL_build_L_below
set_option maxRecDepth 20000 in
theorem ggL_build_X0_turn : GoodIn wsL_build wsX0_turn := goodIn_ca (goodIn_r _ [25, 26, 27, 28, 29, 30, 31, 24, 32, 33, 34, 35, 36, 37, 38, 39, 40, 41, 42, 43, 44, 45, 46, 47, 48, 49, 50, 51, 52, 53, 54, 55, 56, 57, 58, 59, 60, 61, 62, 63, 64, 65, 66, 67, 68, 69, 70, 71, 72, 73, 74, 75, 76, 77, 154, 155, 156, 157, 158, 159, 160, 161, 162, 163, 164, 165] (by decide +kernel) (by decide +kernel)) (goodIn_sub (fun _ h => List.mem_cons_of_mem _ (List.mem_append_left _ (List.mem_append_left _ (List.mem_append_right _ h)))) (by decide +kernel))
set_option maxRecDepth 20000 in
theorem gL_build_X0_turn : GoodIn wsL_build (wsV RL 25 RX0 yX0_turn wsX0_turn) := goodIn_app (goodIn_of _ (by decide +kernel)) ggL_build_X0_turn
theorem ggL_build_L_act_c : GoodIn wsL_build [.code yL_act cL_act 13 (some .boolean)] := goodIn_r _ [80] (by decide +kernel) (by decide +kernel)
set_option maxRecDepth 20000 in
theorem ggL_build_L_act_1 : GoodIn wsL_build wsL_act_r1 := goodIn_r _ [4, 81, 82, 83, 17, 18, 14, 19, 20, 21, 22, 23, 24, 25, 26, 27, 28, 29, 30, 31, 32, 33, 34, 35] (by decide +kernel) (by decide +kernel)
set_option maxRecDepth 20000 in
theorem ggL_build_L_act_2 : GoodIn wsL_build wsL_act_r2 := goodIn_r _ [36, 37, 38, 39, 40, 41, 42, 43, 44, 45, 46, 47, 48, 49, 50, 51, 52, 53, 54, 55, 56, 57, 58, 59] (by decide +kernel) (by decide +kernel)
set_option maxRecDepth 20000 in
theorem ggL_build_L_act_3 : GoodIn wsL_build wsL_act_r3 := goodIn_r _ [60, 61, 62, 63, 64, 65, 66, 67, 68, 69, 70, 71, 72, 73, 74, 75, 76, 77, 84, 85, 86, 87, 88, 89] (by decide +kernel) (by decide +kernel)
set_option maxRecDepth 20000 in
theorem ggL_build_L_act_4 : GoodIn wsL_build wsL_act_r4 := goodIn_r _ [90, 91, 92, 93, 94, 95, 96, 97, 98, 99, 100, 101, 102, 103, 104, 105, 3, 106, 107, 108, 109, 11, 110, 111] (by decide +kernel) (by decide +kernel)
set_option maxRecDepth 20000 in
theorem ggL_build_L_act_5 : GoodIn wsL_build wsL_act_r5 := goodIn_r _ [112, 113, 114, 115, 116, 117, 118, 2, 10, 119, 120, 121, 122, 123, 124, 5, 6, 7, 8, 9, 125, 126, 127, 128] (by decide +kernel) (by decide +kernel)
set_option maxRecDepth 20000 in
theorem ggL_build_L_act_6 : GoodIn wsL_build wsL_act_r6 := goodIn_r _ [129, 130, 131, 132, 133, 134, 135, 136, 137, 138, 139, 140, 141, 142, 143, 144, 145, 146, 147, 148, 149, 150, 151] (by decide +kernel) (by decide +kernel)
theorem ggL_build_L_act : GoodIn wsL_build wsL_act := goodIn_ca (goodIn_ca (goodIn_ca (goodIn_ca (goodIn_ca (goodIn_cc ggL_build_L_act_c (goodIn_app ggL_build_L_act_1 (goodIn_app ggL_build_L_act_2 (goodIn_app ggL_build_L_act_3 (goodIn_app ggL_build_L_act_4 (goodIn_app ggL_build_L_act_5 ggL_build_L_act_6)))))) (goodIn_sub (fun _ h => List.mem_cons_of_mem _ (List.mem_append_left _ (List.mem_append_left _ (List.mem_append_left _ (List.mem_append_left _ (List.mem_append_right _ h)))))) (by decide +kernel))) (goodIn_sub (fun _ h => List.mem_cons_of_mem _ (List.mem_append_left _ (List.mem_append_left _ (List.mem_append_left _ (List.mem_append_right _ h))))) (by decide +kernel))) (goodIn_sub (fun _ h => List.mem_cons_of_mem _ (List.mem_append_left _ (List.mem_append_left _ (List.mem_append_right _ h)))) (by decide +kernel))) (goodIn_sub (fun _ h => List.mem_cons_of_mem _ (List.mem_append_left _ (List.mem_append_right _ h))) (by decide +kernel))) (goodIn_sub (fun _ h => List.mem_cons_of_mem _ (List.mem_append_right _ h)) (by decide +kernel))
set_option maxRecDepth 20000 in
theorem gL_build_L_act : GoodIn wsL_build (va_wsS RL 60 yL_act wsL_act) := goodIn_app (goodIn_of _ (by decide +kernel)) ggL_build_L_act
theorem dL_build_0 : decode cL_build 0 = .ok (.new 10, 3) := by decide +kernel
theorem dL_build_3 : decode cL_build 3 = .ok (.dup, 1) := by decide +kernel
theorem dL_build_4 : decode cL_build 4 = .ok (.invokespecial 55, 3) := by decide +kernel
theorem dL_build_7 : decode cL_build 7 = .ok (.astore_n 2, 1) := by decide +kernel
theorem dL_build_8 : decode cL_build 8 = .ok (.iconst 2, 1) := by decide +kernel
theorem dL_build_9 : decode cL_build 9 = .ok (.aload_n 1, 1) := by decide +kernel
theorem dL_build_10 : decode cL_build 10 = .ok (.iconst 0, 1) := by decide +kernel
theorem dL_build_11 : decode cL_build 11 = .ok (.invokestatic 56, 3) := by decide +kernel
theorem dL_build_14 : decode cL_build 14 = .ok (.bipush 7, 2) := by decide +kernel
theorem dL_build_16 : decode cL_build 16 = .ok (.invokestatic 19, 3) := by decide +kernel
theorem dL_build_19 : decode cL_build 19 = .ok (.iadd, 1) := by decide +kernel
theorem dL_build_20 : decode cL_build 20 = .ok (.istore_n 3, 1) := by decide +kernel
theorem dL_build_21 : decode cL_build 21 = .ok (.iconst 0, 1) := by decide +kernel
theorem dL_build_22 : decode cL_build 22 = .ok (.istore 4, 2) := by decide +kernel
theorem dL_build_24 : decode cL_build 24 = .ok (.iload 4, 2) := by decide +kernel
theorem dL_build_26 : decode cL_build 26 = .ok (.iload_n 3, 1) := by decide +kernel
theorem dL_build_27 : decode cL_build 27 = .ok (.if_icmp .ge 20, 3) := by decide +kernel
theorem dL_build_30 : decode cL_build 30 = .ok (.aload_n 0, 1) := by decide +kernel
theorem dL_build_31 : decode cL_build 31 = .ok (.invokevirtual 25, 3) := by decide +kernel
theorem dL_build_34 : decode cL_build 34 = .ok (.iload 4, 2) := by decide +kernel
theorem dL_build_36 : decode cL_build 36 = .ok (.if_icmp .eq 5, 3) := by decide +kernel
theorem dL_build_39 : decode cL_build 39 = .ok (.aconst_null, 1) := by decide +kernel
theorem dL_build_40 : decode cL_build 40 = .ok (.areturn, 1) := by decide +kernel
theorem dL_build_41 : decode cL_build 41 = .ok (.iinc 4 1, 3) := by decide +kernel
theorem dL_build_44 : decode cL_build 44 = .ok (.goto (-20), 3) := by decide +kernel
theorem dL_build_47 : decode cL_build 47 = .ok (.aload_n 2, 1) := by decide +kernel
theorem dL_build_48 : decode cL_build 48 = .ok (.iload_n 3, 1) := by decide +kernel
theorem dL_build_49 : decode cL_build 49 = .ok (.putfield 9, 3) := by decide +kernel
theorem dL_build_52 : decode cL_build 52 = .ok (.iconst 4, 1) := by decide +kernel
theorem dL_build_53 : decode cL_build 53 = .ok (.aload_n 1, 1) := by decide +kernel
theorem dL_build_54 : decode cL_build 54 = .ok (.iconst 1, 1) := by decide +kernel
theorem dL_build_55 : decode cL_build 55 = .ok (.invokestatic 56, 3) := by decide +kernel
theorem dL_build_58 : decode cL_build 58 = .ok (.bipush 24, 2) := by decide +kernel
theorem dL_build_60 : decode cL_build 60 = .ok (.invokestatic 19, 3) := by decide +kernel
theorem dL_build_63 : decode cL_build 63 = .ok (.iadd, 1) := by decide +kernel
theorem dL_build_64 : decode cL_build 64 = .ok (.istore 4, 2) := by decide +kernel
theorem dL_build_66 : decode cL_build 66 = .ok (.iconst 0, 1) := by decide +kernel
theorem dL_build_67 : decode cL_build 67 = .ok (.istore 5, 2) := by decide +kernel
theorem dL_build_69 : decode cL_build 69 = .ok (.iload 5, 2) := by decide +kernel
theorem dL_build_71 : decode cL_build 71 = .ok (.iload 4, 2) := by decide +kernel
theorem dL_build_73 : decode cL_build 73 = .ok (.if_icmp .ge 43, 3) := by decide +kernel
theorem dL_build_76 : decode cL_build 76 = .ok (.aload_n 0, 1) := by decide +kernel
theorem dL_build_77 : decode cL_build 77 = .ok (.aload_n 2, 1) := by decide +kernel
theorem dL_build_78 : decode cL_build 78 = .ok (.aload_n 1, 1) := by decide +kernel
theorem dL_build_79 : decode cL_build 79 = .ok (.iload 5, 2) := by decide +kernel
theorem dL_build_81 : decode cL_build 81 = .ok (.bipush 16, 2) := by decide +kernel
theorem dL_build_83 : decode cL_build 83 = .ok (.irem, 1) := by decide +kernel
theorem dL_build_84 : decode cL_build 84 = .ok (.invokestatic 56, 3) := by decide +kernel
theorem dL_build_87 : decode cL_build 87 = .ok (.iload 5, 2) := by decide +kernel
theorem dL_build_89 : decode cL_build 89 = .ok (.bipush 16, 2) := by decide +kernel
theorem dL_build_91 : decode cL_build 91 = .ok (.idiv, 1) := by decide +kernel
theorem dL_build_92 : decode cL_build 92 = .ok (.iconst 3, 1) := by decide +kernel
theorem dL_build_93 : decode cL_build 93 = .ok (.imul, 1) := by decide +kernel
theorem dL_build_94 : decode cL_build 94 = .ok (.ishr, 1) := by decide +kernel
theorem dL_build_95 : decode cL_build 95 = .ok (.sipush 347, 3) := by decide +kernel
theorem dL_build_98 : decode cL_build 98 = .ok (.iload 5, 2) := by decide +kernel
theorem dL_build_100 : decode cL_build 100 = .ok (.imul, 1) := by decide +kernel
theorem dL_build_101 : decode cL_build 101 = .ok (.iadd, 1) := by decide +kernel
theorem dL_build_102 : decode cL_build 102 = .ok (.invokestatic 60, 3) := by decide +kernel
theorem dL_build_105 : decode cL_build 105 = .ok (.ifCond .ne 5, 3) := by decide +kernel
theorem dL_build_108 : decode cL_build 108 = .ok (.aconst_null, 1) := by decide +kernel
theorem dL_build_109 : decode cL_build 109 = .ok (.areturn, 1) := by decide +kernel
theorem dL_build_110 : decode cL_build 110 = .ok (.iinc 5 1, 3) := by decide +kernel
theorem dL_build_113 : decode cL_build 113 = .ok (.goto (-44), 3) := by decide +kernel
theorem dL_build_116 : decode cL_build 116 = .ok (.aload_n 2, 1) := by decide +kernel
theorem dL_build_117 : decode cL_build 117 = .ok (.areturn, 1) := by decide +kernel
