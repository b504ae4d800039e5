set_option maxRecDepth 20000 in
theorem ggX0_init_X0_settle : GoodIn wsX0_init wsX0_settle := goodIn_r _ [19, 10, 20, 21, 22, 23, 18, 24, 25, 26, 27, 28, 29, 30, 9, 6, 7, 5, 31, 32, 33, 34, 35, 36, 37, 38, 39, 40, 41, 42, 43, 11, 44, 45, 46, 47, 48, 49, 50, 51, 52, 53, 54, 55, 56, 57, 58, 59, 60, 61, 62, 63, 64, 65, 66, 67, 68, 69, 70, 71] (by decide +kernel) (by decide +kernel)
set_option maxRecDepth 20000 in
theorem gX0_init_X0_settle : GoodIn wsX0_init (wsV RX0 38 RX0 yX0_settle wsX0_settle) := goodIn_app (goodIn_of _ (by decide +kernel)) ggX0_init_X0_settle
theorem dX0_init_0 : decode cX0_init 0 = .ok (.aload_n 0, 1) := by decide +kernel
theorem dX0_init_1 : decode cX0_init 1 = .ok (.invokespecial 1, 3) := by decide +kernel
theorem dX0_init_4 : decode cX0_init 4 = .ok (.aload_n 0, 1) := by decide +kernel
theorem dX0_init_5 : decode cX0_init 5 = .ok (.bipush 30, 2) := by decide +kernel
theorem dX0_init_7 : decode cX0_init 7 = .ok (.newarray .int, 2) := by decide +kernel
theorem dX0_init_9 : decode cX0_init 9 = .ok (.putfield 9, 3) := by decide +kernel
theorem dX0_init_12 : decode cX0_init 12 = .ok (.aload_n 0, 1) := by decide +kernel
theorem dX0_init_13 : decode cX0_init 13 = .ok (.bipush 30, 2) := by decide +kernel
theorem dX0_init_15 : decode cX0_init 15 = .ok (.newarray .int, 2) := by decide +kernel
theorem dX0_init_17 : decode cX0_init 17 = .ok (.putfield 13, 3) := by decide +kernel
theorem dX0_init_20 : decode cX0_init 20 = .ok (.aload_n 0, 1) := by decide +kernel
theorem dX0_init_21 : decode cX0_init 21 = .ok (.bipush 30, 2) := by decide +kernel
theorem dX0_init_23 : decode cX0_init 23 = .ok (.newarray .int, 2) := by decide +kernel
theorem dX0_init_25 : decode cX0_init 25 = .ok (.putfield 16, 3) := by decide +kernel
theorem dX0_init_28 : decode cX0_init 28 = .ok (.aload_n 0, 1) := by decide +kernel
theorem dX0_init_29 : decode cX0_init 29 = .ok (.bipush 30, 2) := by decide +kernel
theorem dX0_init_31 : decode cX0_init 31 = .ok (.newarray .boolean, 2) := by decide +kernel
theorem dX0_init_33 : decode cX0_init 33 = .ok (.putfield 19, 3) := by decide +kernel
theorem dX0_init_36 : decode cX0_init 36 = .ok (.aload_n 0, 1) := by decide +kernel
theorem dX0_init_37 : decode cX0_init 37 = .ok (.bipush 12, 2) := by decide +kernel
theorem dX0_init_39 : decode cX0_init 39 = .ok (.newarray .int, 2) := by decide +kernel
theorem dX0_init_41 : decode cX0_init 41 = .ok (.putfield 23, 3) := by decide +kernel
theorem dX0_init_44 : decode cX0_init 44 = .ok (.aload_n 0, 1) := by decide +kernel
theorem dX0_init_45 : decode cX0_init 45 = .ok (.sipush 144, 3) := by decide +kernel
theorem dX0_init_48 : decode cX0_init 48 = .ok (.newarray .int, 2) := by decide +kernel
theorem dX0_init_50 : decode cX0_init 50 = .ok (.putfield 26, 3) := by decide +kernel
theorem dX0_init_53 : decode cX0_init 53 = .ok (.aload_n 0, 1) := by decide +kernel
theorem dX0_init_54 : decode cX0_init 54 = .ok (.bipush 12, 2) := by decide +kernel
theorem dX0_init_56 : decode cX0_init 56 = .ok (.newarray .int, 2) := by decide +kernel
theorem dX0_init_58 : decode cX0_init 58 = .ok (.putfield 29, 3) := by decide +kernel
theorem dX0_init_61 : decode cX0_init 61 = .ok (.aload_n 0, 1) := by decide +kernel
theorem dX0_init_62 : decode cX0_init 62 = .ok (.bipush 12, 2) := by decide +kernel
theorem dX0_init_64 : decode cX0_init 64 = .ok (.newarray .int, 2) := by decide +kernel
theorem dX0_init_66 : decode cX0_init 66 = .ok (.putfield 32, 3) := by decide +kernel
theorem dX0_init_69 : decode cX0_init 69 = .ok (.aload_n 0, 1) := by decide +kernel
theorem dX0_init_70 : decode cX0_init 70 = .ok (.bipush 12, 2) := by decide +kernel
theorem dX0_init_72 : decode cX0_init 72 = .ok (.newarray .int, 2) := by decide +kernel
theorem dX0_init_74 : decode cX0_init 74 = .ok (.putfield 35, 3) := by decide +kernel
theorem dX0_init_77 : decode cX0_init 77 = .ok (.aload_n 0, 1) := by decide +kernel
theorem dX0_init_78 : decode cX0_init 78 = .ok (.invokevirtual 38, 3) := by decide +kernel
theorem dX0_init_81 : decode cX0_init 81 = .ok (.return_, 1) := by decide +kernel
set_option maxRecDepth 20000 in
theorem ggX0_turn_X0_settle : GoodIn wsX0_turn wsX0_settle := goodIn_r _ [8, 9, 10, 11, 12, 13, 7, 14, 3, 15, 16, 17, 18, 19, 20, 21, 22, 23, 24, 25, 26, 27, 28, 29, 30, 31, 32, 33, 34, 35, 36, 37, 38, 39, 40, 41, 42, 43, 44, 45, 46, 47, 48, 49, 50, 51, 52, 53, 54, 55, 56, 57, 58, 59, 60, 61, 62, 63, 64, 65] (by decide +kernel) (by decide +kernel)
set_option maxRecDepth 20000 in
theorem gX0_turn_X0_settle : GoodIn wsX0_turn (wsV RX0 38 RX0 yX0_settle wsX0_settle) := goodIn_app (goodIn_of _ (by decide +kernel)) ggX0_turn_X0_settle
theorem dX0_turn_0 : decode cX0_turn 0 = .ok (.aload_n 0, 1) := by decide +kernel
theorem dX0_turn_1 : decode cX0_turn 1 = .ok (.getfield 41, 3) := by decide +kernel
theorem dX0_turn_4 : decode cX0_turn 4 = .ok (.bipush 12, 2) := by decide +kernel
theorem dX0_turn_6 : decode cX0_turn 6 = .ok (.if_icmp .lt 13, 3) := by decide +kernel
theorem dX0_turn_9 : decode cX0_turn 9 = .ok (.new 45, 3) := by decide +kernel
theorem dX0_turn_12 : decode cX0_turn 12 = .ok (.dup, 1) := by decide +kernel
theorem dX0_turn_13 : decode cX0_turn 13 = .ok (.ldc 47, 2) := by decide +kernel
theorem dX0_turn_15 : decode cX0_turn 15 = .ok (.invokespecial 49, 3) := by decide +kernel
theorem dX0_turn_18 : decode cX0_turn 18 = .ok (.athrow, 1) := by decide +kernel
theorem dX0_turn_19 : decode cX0_turn 19 = .ok (.aload_n 0, 1) := by decide +kernel
theorem dX0_turn_20 : decode cX0_turn 20 = .ok (.getfield 41, 3) := by decide +kernel
theorem dX0_turn_23 : decode cX0_turn 23 = .ok (.istore_n 1, 1) := by decide +kernel
theorem dX0_turn_24 : decode cX0_turn 24 = .ok (.aload_n 0, 1) := by decide +kernel
theorem dX0_turn_25 : decode cX0_turn 25 = .ok (.dup, 1) := by decide +kernel
theorem dX0_turn_26 : decode cX0_turn 26 = .ok (.getfield 41, 3) := by decide +kernel
theorem dX0_turn_29 : decode cX0_turn 29 = .ok (.iconst 1, 1) := by decide +kernel
theorem dX0_turn_30 : decode cX0_turn 30 = .ok (.iadd, 1) := by decide +kernel
theorem dX0_turn_31 : decode cX0_turn 31 = .ok (.putfield 41, 3) := by decide +kernel
theorem dX0_turn_34 : decode cX0_turn 34 = .ok (.aload_n 0, 1) := by decide +kernel
theorem dX0_turn_35 : decode cX0_turn 35 = .ok (.invokevirtual 38, 3) := by decide +kernel
theorem dX0_turn_38 : decode cX0_turn 38 = .ok (.iload_n 1, 1) := by decide +kernel
theorem dX0_turn_39 : decode cX0_turn 39 = .ok (.ireturn, 1) := by decide +kernel
set_option maxRecDepth 20000 in
theorem ggX0_tie_X0_checkTurn : GoodIn wsX0_tie wsX0_checkTurn := goodIn_ca (goodIn_r _ [12, 13, 14, 15, 68, 69, 70, 71, 72, 73, 74, 75, 76, 77, 78, 79] (by decide +kernel) (by decide +kernel)) (goodIn_sub (fun _ h => List.mem_cons_of_mem _ (List.mem_append_left _ (List.mem_append_right _ h))) (by decide +kernel))
set_option maxRecDepth 20000 in
theorem gX0_tie_X0_checkTurn : GoodIn wsX0_tie (wsV RX0 52 RX0 yX0_checkTurn wsX0_checkTurn) := goodIn_app (goodIn_of _ (by decide +kernel)) ggX0_tie_X0_checkTurn
set_option maxRecDepth 20000 in
theorem ggX0_tie_X0_checkTwoTurns : GoodIn wsX0_tie wsX0_checkTwoTurns := goodIn_ca (goodIn_r _ [18, 19, 20] (by decide +kernel) (by decide +kernel)) (goodIn_sub (fun _ h => List.mem_cons_of_mem _ (List.mem_append_right _ h)) (by decide +kernel))
set_option maxRecDepth 20000 in
theorem gX0_tie_X0_checkTwoTurns : GoodIn wsX0_tie (va_wsS RX0 56 yX0_checkTwoTurns wsX0_checkTwoTurns) := goodIn_app (goodIn_of _ (by decide +kernel)) ggX0_tie_X0_checkTwoTurns
set_option maxRecDepth 20000 in
theorem ggX0_tie_X0_checkLength : GoodIn wsX0_tie wsX0_checkLength := goodIn_ca (goodIn_r _ [23, 19, 20] (by decide +kernel) (by decide +kernel)) (goodIn_sub (fun _ h => List.mem_cons_of_mem _ (List.mem_append_right _ h)) (by decide +kernel))
set_option maxRecDepth 20000 in
theorem gX0_tie_X0_checkLength : GoodIn wsX0_tie (va_wsS RX0 60 yX0_checkLength wsX0_checkLength) := goodIn_app (goodIn_of _ (by decide +kernel)) ggX0_tie_X0_checkLength
set_option maxRecDepth 20000 in
theorem ggX0_tie_X0_settle : GoodIn wsX0_tie wsX0_settle := goodIn_r _ [27, 28, 29, 30, 31, 32, 11, 33, 15, 34, 35, 36, 37, 3, 7, 5, 6, 4, 38, 39, 40, 41, 42, 43, 44, 45, 46, 47, 48, 49, 50, 51, 52, 53, 54, 55, 56, 57, 58, 59, 60, 61, 62, 63, 64, 65, 66, 67, 68, 69, 70, 71, 72, 73, 74, 75, 76, 77, 78, 79] (by decide +kernel) (by decide +kernel)
set_option maxRecDepth 20000 in
theorem gX0_tie_X0_settle : GoodIn wsX0_tie (wsV RX0 38 RX0 yX0_settle wsX0_settle) := goodIn_app (goodIn_of _ (by decide +kernel)) ggX0_tie_X0_settle
theorem dX0_tie_0 : decode cX0_tie 0 = .ok (.aload_n 0, 1) := by decide +kernel
theorem dX0_tie_1 : decode cX0_tie 1 = .ok (.iload_n 1, 1) := by decide +kernel
theorem dX0_tie_2 : decode cX0_tie 2 = .ok (.invokevirtual 52, 3) := by decide +kernel
theorem dX0_tie_5 : decode cX0_tie 5 = .ok (.aload_n 0, 1) := by decide +kernel
theorem dX0_tie_6 : decode cX0_tie 6 = .ok (.iload_n 2, 1) := by decide +kernel
theorem dX0_tie_7 : decode cX0_tie 7 = .ok (.invokevirtual 52, 3) := by decide +kernel
theorem dX0_tie_10 : decode cX0_tie 10 = .ok (.iload_n 1, 1) := by decide +kernel
theorem dX0_tie_11 : decode cX0_tie 11 = .ok (.iload_n 2, 1) := by decide +kernel
theorem dX0_tie_12 : decode cX0_tie 12 = .ok (.invokestatic 56, 3) := by decide +kernel
theorem dX0_tie_15 : decode cX0_tie 15 = .ok (.iload_n 3, 1) := by decide +kernel
theorem dX0_tie_16 : decode cX0_tie 16 = .ok (.invokestatic 60, 3) := by decide +kernel
theorem dX0_tie_19 : decode cX0_tie 19 = .ok (.aload_n 0, 1) := by decide +kernel
theorem dX0_tie_20 : decode cX0_tie 20 = .ok (.getfield 63, 3) := by decide +kernel
theorem dX0_tie_23 : decode cX0_tie 23 = .ok (.bipush 30, 2) := by decide +kernel
theorem dX0_tie_25 : decode cX0_tie 25 = .ok (.if_icmp .lt 13, 3) := by decide +kernel
theorem dX0_tie_28 : decode cX0_tie 28 = .ok (.new 45, 3) := by decide +kernel
theorem dX0_tie_31 : decode cX0_tie 31 = .ok (.dup, 1) := by decide +kernel
theorem dX0_tie_32 : decode cX0_tie 32 = .ok (.ldc 66, 2) := by decide +kernel
theorem dX0_tie_34 : decode cX0_tie 34 = .ok (.invokespecial 49, 3) := by decide +kernel
theorem dX0_tie_37 : decode cX0_tie 37 = .ok (.athrow, 1) := by decide +kernel
theorem dX0_tie_38 : decode cX0_tie 38 = .ok (.aload_n 0, 1) := by decide +kernel
theorem dX0_tie_39 : decode cX0_tie 39 = .ok (.getfield 63, 3) := by decide +kernel
theorem dX0_tie_42 : decode cX0_tie 42 = .ok (.istore 4, 2) := by decide +kernel
theorem dX0_tie_44 : decode cX0_tie 44 = .ok (.aload_n 0, 1) := by decide +kernel
theorem dX0_tie_45 : decode cX0_tie 45 = .ok (.getfield 9, 3) := by decide +kernel
theorem dX0_tie_48 : decode cX0_tie 48 = .ok (.iload 4, 2) := by decide +kernel
theorem dX0_tie_50 : decode cX0_tie 50 = .ok (.iload_n 1, 1) := by decide +kernel
theorem dX0_tie_51 : decode cX0_tie 51 = .ok (.iastore, 1) := by decide +kernel
theorem dX0_tie_52 : decode cX0_tie 52 = .ok (.aload_n 0, 1) := by decide +kernel
theorem dX0_tie_53 : decode cX0_tie 53 = .ok (.getfield 13, 3) := by decide +kernel
theorem dX0_tie_56 : decode cX0_tie 56 = .ok (.iload 4, 2) := by decide +kernel
theorem dX0_tie_58 : decode cX0_tie 58 = .ok (.iload_n 2, 1) := by decide +kernel
theorem dX0_tie_59 : decode cX0_tie 59 = .ok (.iastore, 1) := by decide +kernel
theorem dX0_tie_60 : decode cX0_tie 60 = .ok (.aload_n 0, 1) := by decide +kernel
theorem dX0_tie_61 : decode cX0_tie 61 = .ok (.getfield 16, 3) := by decide +kernel
theorem dX0_tie_64 : decode cX0_tie 64 = .ok (.iload 4, 2) := by decide +kernel
theorem dX0_tie_66 : decode cX0_tie 66 = .ok (.iload_n 3, 1) := by decide +kernel
theorem dX0_tie_67 : decode cX0_tie 67 = .ok (.iastore, 1) := by decide +kernel
theorem dX0_tie_68 : decode cX0_tie 68 = .ok (.aload_n 0, 1) := by decide +kernel
theorem dX0_tie_69 : decode cX0_tie 69 = .ok (.getfield 19, 3) := by decide +kernel
theorem dX0_tie_72 : decode cX0_tie 72 = .ok (.iload 4, 2) := by decide +kernel
theorem dX0_tie_74 : decode cX0_tie 74 = .ok (.iconst 1, 1) := by decide +kernel
theorem dX0_tie_75 : decode cX0_tie 75 = .ok (.bastore, 1) := by decide +kernel
theorem dX0_tie_76 : decode cX0_tie 76 = .ok (.aload_n 0, 1) := by decide +kernel
theorem dX0_tie_77 : decode cX0_tie 77 = .ok (.dup, 1) := by decide +kernel
theorem dX0_tie_78 : decode cX0_tie 78 = .ok (.getfield 63, 3) := by decide +kernel
theorem dX0_tie_81 : decode cX0_tie 81 = .ok (.iconst 1, 1) := by decide +kernel
theorem dX0_tie_82 : decode cX0_tie 82 = .ok (.iadd, 1) := by decide +kernel
theorem dX0_tie_83 : decode cX0_tie 83 = .ok (.putfield 63, 3) := by decide +kernel
theorem dX0_tie_86 : decode cX0_tie 86 = .ok (.aload_n 0, 1) := by decide +kernel
theorem dX0_tie_87 : decode cX0_tie 87 = .ok (.invokevirtual 38, 3) := by decide +kernel
theorem dX0_tie_90 : decode cX0_tie 90 = .ok (.iload 4, 2) := by decide +kernel
theorem dX0_tie_92 : decode cX0_tie 92 = .ok (.ireturn, 1) := by decide +kernel
set_option maxRecDepth 20000 in
theorem ggX0_cut_X0_checkRope : GoodIn wsX0_cut wsX0_checkRope := goodIn_ca (goodIn_r _ [6, 7, 8, 9, 63, 64, 65, 66, 67, 68, 69, 70, 71, 72, 73, 74] (by decide +kernel) (by decide +kernel)) (goodIn_sub (fun _ h => List.mem_cons_of_mem _ (List.mem_append_left _ (List.mem_append_right _ h))) (by decide +kernel))
set_option maxRecDepth 20000 in
theorem gX0_cut_X0_checkRope : GoodIn wsX0_cut (wsV RX0 68 RX0 yX0_checkRope wsX0_checkRope) := goodIn_app (goodIn_of _ (by decide +kernel)) ggX0_cut_X0_checkRope
set_option maxRecDepth 20000 in
theorem ggX0_cut_X0_checkLength : GoodIn wsX0_cut wsX0_checkLength := goodIn_ca (goodIn_r _ [12, 13, 14] (by decide +kernel) (by decide +kernel)) (goodIn_sub (fun _ h => List.mem_cons_of_mem _ (List.mem_append_right _ h)) (by decide +kernel))
set_option maxRecDepth 20000 in
theorem gX0_cut_X0_checkLength : GoodIn wsX0_cut (va_wsS RX0 60 yX0_checkLength wsX0_checkLength) := goodIn_app (goodIn_of _ (by decide +kernel)) ggX0_cut_X0_checkLength
set_option maxRecDepth 20000 in
theorem ggX0_cut_X0_settle : GoodIn wsX0_cut wsX0_settle := goodIn_r _ [18, 19, 20, 21, 22, 23, 5, 24, 25, 26, 27, 28, 29, 9, 30, 31, 1, 32, 33, 34, 35, 36, 37, 38, 39, 40, 41, 42, 43, 44, 45, 46, 47, 48, 49, 50, 51, 52, 53, 54, 55, 56, 57, 58, 59, 60, 61, 62, 63, 64, 65, 66, 67, 68, 69, 70, 71, 72, 73, 74] (by decide +kernel) (by decide +kernel)
set_option maxRecDepth 20000 in
theorem gX0_cut_X0_settle : GoodIn wsX0_cut (wsV RX0 38 RX0 yX0_settle wsX0_settle) := goodIn_app (goodIn_of _ (by decide +kernel)) ggX0_cut_X0_settle
theorem dX0_cut_0 : decode cX0_cut 0 = .ok (.aload_n 0, 1) := by decide +kernel
theorem dX0_cut_1 : decode cX0_cut 1 = .ok (.iload_n 1, 1) := by decide +kernel
theorem dX0_cut_2 : decode cX0_cut 2 = .ok (.invokevirtual 68, 3) := by decide +kernel
theorem dX0_cut_5 : decode cX0_cut 5 = .ok (.iload_n 2, 1) := by decide +kernel
theorem dX0_cut_6 : decode cX0_cut 6 = .ok (.invokestatic 60, 3) := by decide +kernel
theorem dX0_cut_9 : decode cX0_cut 9 = .ok (.aload_n 0, 1) := by decide +kernel
theorem dX0_cut_10 : decode cX0_cut 10 = .ok (.getfield 16, 3) := by decide +kernel
theorem dX0_cut_13 : decode cX0_cut 13 = .ok (.iload_n 1, 1) := by decide +kernel
theorem dX0_cut_14 : decode cX0_cut 14 = .ok (.iaload, 1) := by decide +kernel
theorem dX0_cut_15 : decode cX0_cut 15 = .ok (.istore_n 3, 1) := by decide +kernel
theorem dX0_cut_16 : decode cX0_cut 16 = .ok (.aload_n 0, 1) := by decide +kernel
theorem dX0_cut_17 : decode cX0_cut 17 = .ok (.getfield 16, 3) := by decide +kernel
theorem dX0_cut_20 : decode cX0_cut 20 = .ok (.iload_n 1, 1) := by decide +kernel
theorem dX0_cut_21 : decode cX0_cut 21 = .ok (.iload_n 2, 1) := by decide +kernel
theorem dX0_cut_22 : decode cX0_cut 22 = .ok (.iastore, 1) := by decide +kernel
theorem dX0_cut_23 : decode cX0_cut 23 = .ok (.aload_n 0, 1) := by decide +kernel
theorem dX0_cut_24 : decode cX0_cut 24 = .ok (.invokevirtual 38, 3) := by decide +kernel
theorem dX0_cut_27 : decode cX0_cut 27 = .ok (.iload_n 3, 1) := by decide +kernel
theorem dX0_cut_28 : decode cX0_cut 28 = .ok (.ireturn, 1) := by decide +kernel
set_option maxRecDepth 20000 in
theorem ggX0_knot_X0_checkRope : GoodIn wsX0_knot wsX0_checkRope := goodIn_ca (goodIn_r _ [6, 7, 8, 9, 58, 59, 60, 61, 62, 63, 64, 65, 66, 67, 68, 69] (by decide +kernel) (by decide +kernel)) (goodIn_sub (fun _ h => List.mem_cons_of_mem _ (List.mem_append_right _ h)) (by decide +kernel))
set_option maxRecDepth 20000 in
theorem gX0_knot_X0_checkRope : GoodIn wsX0_knot (wsV RX0 68 RX0 yX0_checkRope wsX0_checkRope) := goodIn_app (goodIn_of _ (by decide +kernel)) ggX0_knot_X0_checkRope
set_option maxRecDepth 20000 in
theorem ggX0_knot_X0_settle : GoodIn wsX0_knot wsX0_settle := goodIn_r _ [13, 14, 15, 16, 17, 18, 5, 19, 20, 21, 22, 23, 24, 9, 1, 25, 26, 27, 28, 29, 30, 31, 32, 33, 34, 35, 36, 37, 38, 39, 40, 41, 42, 43, 44, 45, 46, 47, 48, 49, 50, 51, 52, 53, 54, 55, 56, 57, 58, 59, 60, 61, 62, 63, 64, 65, 66, 67, 68, 69] (by decide +kernel) (by decide +kernel)
set_option maxRecDepth 20000 in
theorem gX0_knot_X0_settle : GoodIn wsX0_knot (wsV RX0 38 RX0 yX0_settle wsX0_settle) := goodIn_app (goodIn_of _ (by decide +kernel)) ggX0_knot_X0_settle
theorem dX0_knot_0 : decode cX0_knot 0 = .ok (.aload_n 0, 1) := by decide +kernel
theorem dX0_knot_1 : decode cX0_knot 1 = .ok (.iload_n 1, 1) := by decide +kernel
theorem dX0_knot_2 : decode cX0_knot 2 = .ok (.invokevirtual 68, 3) := by decide +kernel
theorem dX0_knot_5 : decode cX0_knot 5 = .ok (.aload_n 0, 1) := by decide +kernel
theorem dX0_knot_6 : decode cX0_knot 6 = .ok (.getfield 19, 3) := by decide +kernel
theorem dX0_knot_9 : decode cX0_knot 9 = .ok (.iload_n 1, 1) := by decide +kernel
theorem dX0_knot_10 : decode cX0_knot 10 = .ok (.aload_n 0, 1) := by decide +kernel
theorem dX0_knot_11 : decode cX0_knot 11 = .ok (.getfield 19, 3) := by decide +kernel
theorem dX0_knot_14 : decode cX0_knot 14 = .ok (.iload_n 1, 1) := by decide +kernel
theorem dX0_knot_15 : decode cX0_knot 15 = .ok (.baload, 1) := by decide +kernel
theorem dX0_knot_16 : decode cX0_knot 16 = .ok (.ifCond .ne 7, 3) := by decide +kernel
theorem dX0_knot_19 : decode cX0_knot 19 = .ok (.iconst 1, 1) := by decide +kernel
theorem dX0_knot_20 : decode cX0_knot 20 = .ok (.goto 4, 3) := by decide +kernel
theorem dX0_knot_23 : decode cX0_knot 23 = .ok (.iconst 0, 1) := by decide +kernel
theorem dX0_knot_24 : decode cX0_knot 24 = .ok (.bastore, 1) := by decide +kernel
theorem dX0_knot_25 : decode cX0_knot 25 = .ok (.aload_n 0, 1) := by decide +kernel
theorem dX0_knot_26 : decode cX0_knot 26 = .ok (.invokevirtual 38, 3) := by decide +kernel
theorem dX0_knot_29 : decode cX0_knot 29 = .ok (.aload_n 0, 1) := by decide +kernel
theorem dX0_knot_30 : decode cX0_knot 30 = .ok (.getfield 19, 3) := by decide +kernel
theorem dX0_knot_33 : decode cX0_knot 33 = .ok (.iload_n 1, 1) := by decide +kernel
theorem dX0_knot_34 : decode cX0_knot 34 = .ok (.baload, 1) := by decide +kernel
theorem dX0_knot_35 : decode cX0_knot 35 = .ok (.ireturn, 1) := by decide +kernel
set_option maxRecDepth 20000 in
theorem ggX0_tighten_X0_isPossible : GoodIn wsX0_tighten wsX0_isPossible := goodIn_r _ [7, 8, 63, 64, 65, 66, 67, 68, 69, 70, 71, 72, 73, 74] (by decide +kernel) (by decide +kernel)
set_option maxRecDepth 20000 in
theorem gX0_tighten_X0_isPossible : GoodIn wsX0_tighten (wsV RX0 71 RX0 yX0_isPossible wsX0_isPossible) := goodIn_app (goodIn_of _ (by decide +kernel)) ggX0_tighten_X0_isPossible
set_option maxRecDepth 20000 in
theorem ggX0_tighten_X0_tightenOne : GoodIn wsX0_tighten wsX0_tightenOne := goodIn_r _ [12, 13, 14, 15, 16, 17, 18, 6, 19, 20, 21, 22, 23, 24, 25, 26, 27, 28, 29, 30, 31, 32, 33, 34, 8, 35, 36, 37, 38, 39, 40, 41, 42, 43, 1, 2, 3, 4, 5, 7, 44, 45, 46, 47, 48, 49, 50, 51, 52, 53, 54, 55, 56, 57, 58, 59, 60, 61, 62, 63, 64, 65, 66, 67, 68, 69, 70, 71, 72, 73, 74] (by decide +kernel) (by decide +kernel)
set_option maxRecDepth 20000 in
theorem gX0_tighten_X0_tightenOne : GoodIn wsX0_tighten (wsV RX0 75 RX0 yX0_tightenOne wsX0_tightenOne) := goodIn_app (goodIn_of _ (by decide +kernel)) ggX0_tighten_X0_tightenOne
theorem dX0_tighten_0 : decode cX0_tighten 0 = .ok (.aload_n 0, 1) := by decide +kernel
theorem dX0_tighten_1 : decode cX0_tighten 1 = .ok (.invokevirtual 71, 3) := by decide +kernel
theorem dX0_tighten_4 : decode cX0_tighten 4 = .ok (.ifCond .ne 5, 3) := by decide +kernel
theorem dX0_tighten_7 : decode cX0_tighten 7 = .ok (.iconst 0, 1) := by decide +kernel
theorem dX0_tighten_8 : decode cX0_tighten 8 = .ok (.ireturn, 1) := by decide +kernel
theorem dX0_tighten_9 : decode cX0_tighten 9 = .ok (.iconst 0, 1) := by decide +kernel
theorem dX0_tighten_10 : decode cX0_tighten 10 = .ok (.istore_n 1, 1) := by decide +kernel
theorem dX0_tighten_11 : decode cX0_tighten 11 = .ok (.iconst 0, 1) := by decide +kernel
theorem dX0_tighten_12 : decode cX0_tighten 12 = .ok (.istore_n 2, 1) := by decide +kernel
theorem dX0_tighten_13 : decode cX0_tighten 13 = .ok (.iload_n 2, 1) := by decide +kernel
theorem dX0_tighten_14 : decode cX0_tighten 14 = .ok (.aload_n 0, 1) := by decide +kernel
theorem dX0_tighten_15 : decode cX0_tighten 15 = .ok (.getfield 63, 3) := by decide +kernel
theorem dX0_tighten_18 : decode cX0_tighten 18 = .ok (.if_icmp .ge 26, 3) := by decide +kernel
theorem dX0_tighten_21 : decode cX0_tighten 21 = .ok (.aload_n 0, 1) := by decide +kernel
theorem dX0_tighten_22 : decode cX0_tighten 22 = .ok (.getfield 19, 3) := by decide +kernel
theorem dX0_tighten_25 : decode cX0_tighten 25 = .ok (.iload_n 2, 1) := by decide +kernel
theorem dX0_tighten_26 : decode cX0_tighten 26 = .ok (.baload, 1) := by decide +kernel
theorem dX0_tighten_27 : decode cX0_tighten 27 = .ok (.ifCond .eq 11, 3) := by decide +kernel
theorem dX0_tighten_30 : decode cX0_tighten 30 = .ok (.iload_n 1, 1) := by decide +kernel
theorem dX0_tighten_31 : decode cX0_tighten 31 = .ok (.aload_n 0, 1) := by decide +kernel
theorem dX0_tighten_32 : decode cX0_tighten 32 = .ok (.iload_n 2, 1) := by decide +kernel
theorem dX0_tighten_33 : decode cX0_tighten 33 = .ok (.invokevirtual 75, 3) := by decide +kernel
theorem dX0_tighten_36 : decode cX0_tighten 36 = .ok (.iadd, 1) := by decide +kernel
theorem dX0_tighten_37 : decode cX0_tighten 37 = .ok (.istore_n 1, 1) := by decide +kernel
theorem dX0_tighten_38 : decode cX0_tighten 38 = .ok (.iinc 2 1, 3) := by decide +kernel
theorem dX0_tighten_41 : decode cX0_tighten 41 = .ok (.goto (-28), 3) := by decide +kernel
theorem dX0_tighten_44 : decode cX0_tighten 44 = .ok (.iload_n 1, 1) := by decide +kernel
theorem dX0_tighten_45 : decode cX0_tighten 45 = .ok (.ireturn, 1) := by decide +kernel
set_option maxRecDepth 20000 in
theorem ggX0_told_X0_checkRope : GoodIn wsX0_told wsX0_checkRope := goodIn_ca (goodIn_r _ [9, 10, 11, 12, 26, 27, 28, 29, 30, 31, 32, 33, 34, 35, 36, 37] (by decide +kernel) (by decide +kernel)) (goodIn_sub (fun _ h => List.mem_cons_of_mem _ (List.mem_append_right _ h)) (by decide +kernel))
set_option maxRecDepth 20000 in
theorem gX0_told_X0_checkRope : GoodIn wsX0_told (wsV RX0 68 RX0 yX0_checkRope wsX0_checkRope) := goodIn_app (goodIn_of _ (by decide +kernel)) ggX0_told_X0_checkRope
set_option maxRecDepth 20000 in
theorem ggX0_told_X0_checkKind : GoodIn wsX0_told wsX0_checkKind := goodIn_ca (goodIn_r _ [15, 10, 11] (by decide +kernel) (by decide +kernel)) (goodIn_sub (fun _ h => List.mem_cons_of_mem _ (List.mem_append_right _ h)) (by decide +kernel))
set_option maxRecDepth 20000 in
theorem gX0_told_X0_checkKind : GoodIn wsX0_told (va_wsS RX0 79 yX0_checkKind wsX0_checkKind) := goodIn_app (goodIn_of _ (by decide +kernel)) ggX0_told_X0_checkKind
set_option maxRecDepth 20000 in
theorem ggX0_told_X0_isTight : GoodIn wsX0_told wsX0_isTight := goodIn_r _ [19, 4, 20, 2, 1, 3, 21, 22, 23, 8, 24, 25, 26, 27, 28, 29, 30, 31, 32, 33, 34, 35, 36, 37] (by decide +kernel) (by decide +kernel)
set_option maxRecDepth 20000 in
theorem gX0_told_X0_isTight : GoodIn wsX0_told (wsV RX0 82 RX0 yX0_isTight wsX0_isTight) := goodIn_app (goodIn_of _ (by decide +kernel)) ggX0_told_X0_isTight
theorem dX0_told_0 : decode cX0_told 0 = .ok (.aload_n 0, 1) := by decide +kernel
theorem dX0_told_1 : decode cX0_told 1 = .ok (.iload_n 1, 1) := by decide +kernel
theorem dX0_told_2 : decode cX0_told 2 = .ok (.invokevirtual 68, 3) := by decide +kernel
theorem dX0_told_5 : decode cX0_told 5 = .ok (.iload_n 2, 1) := by decide +kernel
theorem dX0_told_6 : decode cX0_told 6 = .ok (.iconst 5, 1) := by decide +kernel
theorem dX0_told_7 : decode cX0_told 7 = .ok (.invokestatic 79, 3) := by decide +kernel
theorem dX0_told_10 : decode cX0_told 10 = .ok (.iload_n 2, 1) := by decide +kernel
theorem dX0_told_11 : decode cX0_told 11 = .ok (.tableswitch 65 0 3 #[29, 36, 43, 50], 29) := by decide +kernel
theorem dX0_told_40 : decode cX0_told 40 = .ok (.aload_n 0, 1) := by decide +kernel
theorem dX0_told_41 : decode cX0_told 41 = .ok (.getfield 9, 3) := by decide +kernel
theorem dX0_told_44 : decode cX0_told 44 = .ok (.iload_n 1, 1) := by decide +kernel
theorem dX0_told_45 : decode cX0_told 45 = .ok (.iaload, 1) := by decide +kernel
theorem dX0_told_46 : decode cX0_told 46 = .ok (.ireturn, 1) := by decide +kernel
theorem dX0_told_47 : decode cX0_told 47 = .ok (.aload_n 0, 1) := by decide +kernel
theorem dX0_told_48 : decode cX0_told 48 = .ok (.getfield 13, 3) := by decide +kernel
theorem dX0_told_51 : decode cX0_told 51 = .ok (.iload_n 1, 1) := by decide +kernel
theorem dX0_told_52 : decode cX0_told 52 = .ok (.iaload, 1) := by decide +kernel
theorem dX0_told_53 : decode cX0_told 53 = .ok (.ireturn, 1) := by decide +kernel
theorem dX0_told_54 : decode cX0_told 54 = .ok (.aload_n 0, 1) := by decide +kernel
theorem dX0_told_55 : decode cX0_told 55 = .ok (.getfield 16, 3) := by decide +kernel
theorem dX0_told_58 : decode cX0_told 58 = .ok (.iload_n 1, 1) := by decide +kernel
theorem dX0_told_59 : decode cX0_told 59 = .ok (.iaload, 1) := by decide +kernel
theorem dX0_told_60 : decode cX0_told 60 = .ok (.ireturn, 1) := by decide +kernel
theorem dX0_told_61 : decode cX0_told 61 = .ok (.aload_n 0, 1) := by decide +kernel
theorem dX0_told_62 : decode cX0_told 62 = .ok (.getfield 19, 3) := by decide +kernel
theorem dX0_told_65 : decode cX0_told 65 = .ok (.iload_n 1, 1) := by decide +kernel
theorem dX0_told_66 : decode cX0_told 66 = .ok (.baload, 1) := by decide +kernel
theorem dX0_told_67 : decode cX0_told 67 = .ok (.ifCond .eq 7, 3) := by decide +kernel
theorem dX0_told_70 : decode cX0_told 70 = .ok (.iconst 1, 1) := by decide +kernel
theorem dX0_told_71 : decode cX0_told 71 = .ok (.goto 4, 3) := by decide +kernel
theorem dX0_told_74 : decode cX0_told 74 = .ok (.iconst 0, 1) := by decide +kernel
theorem dX0_told_75 : decode cX0_told 75 = .ok (.ireturn, 1) := by decide +kernel
theorem dX0_told_76 : decode cX0_told 76 = .ok (.aload_n 0, 1) := by decide +kernel
theorem dX0_told_77 : decode cX0_told 77 = .ok (.iload_n 1, 1) := by decide +kernel
theorem dX0_told_78 : decode cX0_told 78 = .ok (.invokevirtual 82, 3) := by decide +kernel
theorem dX0_told_81 : decode cX0_told 81 = .ok (.ifCond .eq 7, 3) := by decide +kernel
theorem dX0_told_84 : decode cX0_told 84 = .ok (.iconst 1, 1) := by decide +kernel
theorem dX0_told_85 : decode cX0_told 85 = .ok (.goto 4, 3) := by decide +kernel
theorem dX0_told_88 : decode cX0_told 88 = .ok (.iconst 0, 1) := by decide +kernel
theorem dX0_told_89 : decode cX0_told 89 = .ok (.ireturn, 1) := by decide +kernel
set_option maxRecDepth 20000 in
theorem ggX0_about_X0_checkTurn : GoodIn wsX0_about wsX0_checkTurn := goodIn_ca (goodIn_r _ [8, 9, 10, 11, 26, 27, 28, 29, 30, 31, 32, 33, 34, 35, 36, 37] (by decide +kernel) (by decide +kernel)) (goodIn_sub (fun _ h => List.mem_cons_of_mem _ (List.mem_append_right _ h)) (by decide +kernel))
set_option maxRecDepth 20000 in
theorem gX0_about_X0_checkTurn : GoodIn wsX0_about (wsV RX0 52 RX0 yX0_checkTurn wsX0_checkTurn) := goodIn_app (goodIn_of _ (by decide +kernel)) ggX0_about_X0_checkTurn
set_option maxRecDepth 20000 in
theorem ggX0_about_X0_checkKind : GoodIn wsX0_about wsX0_checkKind := goodIn_ca (goodIn_r _ [14, 9, 10] (by decide +kernel) (by decide +kernel)) (goodIn_sub (fun _ h => List.mem_cons_of_mem _ (List.mem_append_right _ h)) (by decide +kernel))
set_option maxRecDepth 20000 in
theorem gX0_about_X0_checkKind : GoodIn wsX0_about (va_wsS RX0 79 yX0_checkKind wsX0_checkKind) := goodIn_app (goodIn_of _ (by decide +kernel)) ggX0_about_X0_checkKind
set_option maxRecDepth 20000 in
theorem ggX0_about_X0_tiedEndsAt : GoodIn wsX0_about wsX0_tiedEndsAt := goodIn_r _ [18, 19, 20, 26, 27, 28, 29, 30, 31, 32, 33, 34, 35, 36, 37] (by decide +kernel) (by decide +kernel)
set_option maxRecDepth 20000 in
theorem gX0_about_X0_tiedEndsAt : GoodIn wsX0_about (wsV RX0 86 RX0 yX0_tiedEndsAt wsX0_tiedEndsAt) := goodIn_app (goodIn_of _ (by decide +kernel)) ggX0_about_X0_tiedEndsAt
set_option maxRecDepth 20000 in
theorem ggX0_about_X0_isPossible : GoodIn wsX0_about wsX0_isPossible := goodIn_r _ [24, 25, 26, 27, 28, 29, 30, 31, 32, 33, 34, 35, 36, 37] (by decide +kernel) (by decide +kernel)
set_option maxRecDepth 20000 in
theorem gX0_about_X0_isPossible : GoodIn wsX0_about (wsV RX0 71 RX0 yX0_isPossible wsX0_isPossible) := goodIn_app (goodIn_of _ (by decide +kernel)) ggX0_about_X0_isPossible
theorem dX0_about_0 : decode cX0_about 0 = .ok (.aload_n 0, 1) := by decide +kernel
theorem dX0_about_1 : decode cX0_about 1 = .ok (.iload_n 1, 1) := by decide +kernel
theorem dX0_about_2 : decode cX0_about 2 = .ok (.invokevirtual 52, 3) := by decide +kernel
theorem dX0_about_5 : decode cX0_about 5 = .ok (.iload_n 2, 1) := by decide +kernel
theorem dX0_about_6 : decode cX0_about 6 = .ok (.iconst 3, 1) := by decide +kernel
theorem dX0_about_7 : decode cX0_about 7 = .ok (.invokestatic 79, 3) := by decide +kernel
theorem dX0_about_10 : decode cX0_about 10 = .ok (.iload_n 2, 1) := by decide +kernel
theorem dX0_about_11 : decode cX0_about 11 = .ok (.lookupswitch 45 #[(0, 25), (1, 35)], 25) := by decide +kernel
theorem dX0_about_36 : decode cX0_about 36 = .ok (.aload_n 0, 1) := by decide +kernel
theorem dX0_about_37 : decode cX0_about 37 = .ok (.iload_n 1, 1) := by decide +kernel
theorem dX0_about_38 : decode cX0_about 38 = .ok (.aload_n 0, 1) := by decide +kernel
theorem dX0_about_39 : decode cX0_about 39 = .ok (.getfield 9, 3) := by decide +kernel
theorem dX0_about_42 : decode cX0_about 42 = .ok (.invokevirtual 86, 3) := by decide +kernel
theorem dX0_about_45 : decode cX0_about 45 = .ok (.ireturn, 1) := by decide +kernel
theorem dX0_about_46 : decode cX0_about 46 = .ok (.aload_n 0, 1) := by decide +kernel
theorem dX0_about_47 : decode cX0_about 47 = .ok (.iload_n 1, 1) := by decide +kernel
theorem dX0_about_48 : decode cX0_about 48 = .ok (.aload_n 0, 1) := by decide +kernel
theorem dX0_about_49 : decode cX0_about 49 = .ok (.getfield 13, 3) := by decide +kernel
theorem dX0_about_52 : decode cX0_about 52 = .ok (.invokevirtual 86, 3) := by decide +kernel
theorem dX0_about_55 : decode cX0_about 55 = .ok (.ireturn, 1) := by decide +kernel
theorem dX0_about_56 : decode cX0_about 56 = .ok (.aload_n 0, 1) := by decide +kernel
theorem dX0_about_57 : decode cX0_about 57 = .ok (.invokevirtual 71, 3) := by decide +kernel
theorem dX0_about_60 : decode cX0_about 60 = .ok (.ifCond .eq 12, 3) := by decide +kernel
theorem dX0_about_63 : decode cX0_about 63 = .ok (.aload_n 0, 1) := by decide +kernel
theorem dX0_about_64 : decode cX0_about 64 = .ok (.getfield 23, 3) := by decide +kernel
theorem dX0_about_67 : decode cX0_about 67 = .ok (.iload_n 1, 1) := by decide +kernel
theorem dX0_about_68 : decode cX0_about 68 = .ok (.iaload, 1) := by decide +kernel
theorem dX0_about_69 : decode cX0_about 69 = .ok (.goto 4, 3) := by decide +kernel
theorem dX0_about_72 : decode cX0_about 72 = .ok (.iconst (-1), 1) := by decide +kernel
theorem dX0_about_73 : decode cX0_about 73 = .ok (.ireturn, 1) := by decide +kernel
set_option maxRecDepth 20000 in
theorem ggX0_count_X0_checkKind : GoodIn wsX0_count wsX0_checkKind := goodIn_ca (goodIn_r _ [8, 9, 10] (by decide +kernel) (by decide +kernel)) (goodIn_sub (fun _ h => List.mem_cons_of_mem _ (List.mem_append_right _ h)) (by decide +kernel))
set_option maxRecDepth 20000 in
theorem gX0_count_X0_checkKind : GoodIn wsX0_count (va_wsS RX0 79 yX0_checkKind wsX0_checkKind) := goodIn_app (goodIn_of _ (by decide +kernel)) ggX0_count_X0_checkKind
set_option maxRecDepth 20000 in
theorem ggX0_count_X0_tiedRopes : GoodIn wsX0_count wsX0_tiedRopes := goodIn_r _ [14, 2, 15, 57, 58, 59, 60, 61, 62, 63, 64, 65, 66, 67, 68] (by decide +kernel) (by decide +kernel)
set_option maxRecDepth 20000 in
theorem gX0_count_X0_tiedRopes : GoodIn wsX0_count (wsV RX0 90 RX0 yX0_tiedRopes wsX0_tiedRopes) := goodIn_app (goodIn_of _ (by decide +kernel)) ggX0_count_X0_tiedRopes
set_option maxRecDepth 20000 in
theorem ggX0_count_X0_isPossible : GoodIn wsX0_count wsX0_isPossible := goodIn_r _ [19, 3, 57, 58, 59, 60, 61, 62, 63, 64, 65, 66, 67, 68] (by decide +kernel) (by decide +kernel)
set_option maxRecDepth 20000 in
theorem gX0_count_X0_isPossible : GoodIn wsX0_count (wsV RX0 71 RX0 yX0_isPossible wsX0_isPossible) := goodIn_app (goodIn_of _ (by decide +kernel)) ggX0_count_X0_isPossible
set_option maxRecDepth 20000 in
theorem ggX0_count_X0_lastOf : GoodIn wsX0_count wsX0_lastOf := goodIn_r _ [23, 1, 24, 25, 26, 27, 57, 58, 59, 60, 61, 62, 63, 64, 65, 66, 67, 68] (by decide +kernel) (by decide +kernel)
set_option maxRecDepth 20000 in
theorem gX0_count_X0_lastOf : GoodIn wsX0_count (wsV RX0 97 RX0 yX0_lastOf wsX0_lastOf) := goodIn_app (goodIn_of _ (by decide +kernel)) ggX0_count_X0_lastOf
set_option maxRecDepth 20000 in
theorem ggX0_count_X0_tightRopes : GoodIn wsX0_count wsX0_tightRopes := goodIn_r _ [31, 2, 32, 33, 34, 7, 35, 15, 4, 36, 37, 38, 16, 17, 18, 19, 3, 57, 58, 59, 60, 61, 62, 63, 64, 65, 66, 67, 68] (by decide +kernel) (by decide +kernel)
set_option maxRecDepth 20000 in
theorem gX0_count_X0_tightRopes : GoodIn wsX0_count (wsV RX0 101 RX0 yX0_tightRopes wsX0_tightRopes) := goodIn_app (goodIn_of _ (by decide +kernel)) ggX0_count_X0_tightRopes
set_option maxRecDepth 20000 in
theorem ggX0_count_X0_shortRingLength : GoodIn wsX0_count wsX0_shortRingLength := goodIn_r _ [42, 1, 43, 44, 45, 7, 46, 47, 48, 49, 50, 51, 52, 53, 2, 15, 37, 38, 36, 54, 55, 26, 56, 57, 58, 59, 60, 61, 62, 63, 64, 65, 66, 67, 68] (by decide +kernel) (by decide +kernel)
set_option maxRecDepth 20000 in
theorem gX0_count_X0_shortRingLength : GoodIn wsX0_count (wsV RX0 104 RX0 yX0_shortRingLength wsX0_shortRingLength) := goodIn_app (goodIn_of _ (by decide +kernel)) ggX0_count_X0_shortRingLength
theorem dX0_count_0 : decode cX0_count 0 = .ok (.iload_n 1, 1) := by decide +kernel
theorem dX0_count_1 : decode cX0_count 1 = .ok (.bipush 7, 2) := by decide +kernel
theorem dX0_count_3 : decode cX0_count 3 = .ok (.invokestatic 79, 3) := by decide +kernel
theorem dX0_count_6 : decode cX0_count 6 = .ok (.iload_n 1, 1) := by decide +kernel
theorem dX0_count_7 : decode cX0_count 7 = .ok (.tableswitch 82 0 5 #[37, 42, 47, 52, 57, 77], 37) := by decide +kernel
theorem dX0_count_44 : decode cX0_count 44 = .ok (.aload_n 0, 1) := by decide +kernel
theorem dX0_count_45 : decode cX0_count 45 = .ok (.getfield 41, 3) := by decide +kernel
theorem dX0_count_48 : decode cX0_count 48 = .ok (.ireturn, 1) := by decide +kernel
theorem dX0_count_49 : decode cX0_count 49 = .ok (.aload_n 0, 1) := by decide +kernel
theorem dX0_count_50 : decode cX0_count 50 = .ok (.getfield 63, 3) := by decide +kernel
theorem dX0_count_53 : decode cX0_count 53 = .ok (.ireturn, 1) := by decide +kernel
theorem dX0_count_54 : decode cX0_count 54 = .ok (.aload_n 0, 1) := by decide +kernel
theorem dX0_count_55 : decode cX0_count 55 = .ok (.invokevirtual 90, 3) := by decide +kernel
theorem dX0_count_58 : decode cX0_count 58 = .ok (.ireturn, 1) := by decide +kernel
theorem dX0_count_59 : decode cX0_count 59 = .ok (.aload_n 0, 1) := by decide +kernel
theorem dX0_count_60 : decode cX0_count 60 = .ok (.getfield 94, 3) := by decide +kernel
theorem dX0_count_63 : decode cX0_count 63 = .ok (.ireturn, 1) := by decide +kernel
theorem dX0_count_64 : decode cX0_count 64 = .ok (.aload_n 0, 1) := by decide +kernel
theorem dX0_count_65 : decode cX0_count 65 = .ok (.invokevirtual 71, 3) := by decide +kernel
theorem dX0_count_68 : decode cX0_count 68 = .ok (.ifCond .eq 14, 3) := by decide +kernel
theorem dX0_count_71 : decode cX0_count 71 = .ok (.aload_n 0, 1) := by decide +kernel
theorem dX0_count_72 : decode cX0_count 72 = .ok (.aload_n 0, 1) := by decide +kernel
theorem dX0_count_73 : decode cX0_count 73 = .ok (.getfield 23, 3) := by decide +kernel
theorem dX0_count_76 : decode cX0_count 76 = .ok (.invokevirtual 97, 3) := by decide +kernel
theorem dX0_count_79 : decode cX0_count 79 = .ok (.goto 4, 3) := by decide +kernel
theorem dX0_count_82 : decode cX0_count 82 = .ok (.iconst (-1), 1) := by decide +kernel
theorem dX0_count_83 : decode cX0_count 83 = .ok (.ireturn, 1) := by decide +kernel
theorem dX0_count_84 : decode cX0_count 84 = .ok (.aload_n 0, 1) := by decide +kernel
theorem dX0_count_85 : decode cX0_count 85 = .ok (.invokevirtual 101, 3) := by decide +kernel
theorem dX0_count_88 : decode cX0_count 88 = .ok (.ireturn, 1) := by decide +kernel
theorem dX0_count_89 : decode cX0_count 89 = .ok (.aload_n 0, 1) := by decide +kernel
theorem dX0_count_90 : decode cX0_count 90 = .ok (.invokevirtual 71, 3) := by decide +kernel
theorem dX0_count_93 : decode cX0_count 93 = .ok (.ifCond .eq 7, 3) := by decide +kernel
theorem dX0_count_96 : decode cX0_count 96 = .ok (.iconst 0, 1) := by decide +kernel
theorem dX0_count_97 : decode cX0_count 97 = .ok (.goto 7, 3) := by decide +kernel
theorem dX0_count_100 : decode cX0_count 100 = .ok (.aload_n 0, 1) := by decide +kernel
theorem dX0_count_101 : decode cX0_count 101 = .ok (.invokevirtual 104, 3) := by decide +kernel
theorem dX0_count_104 : decode cX0_count 104 = .ok (.ireturn, 1) := by decide +kernel
set_option maxRecDepth 20000 in
theorem ggX0_holds_X0_isPossible : GoodIn wsX0_holds wsX0_isPossible := goodIn_r _ [5, 6, 7, 8, 9, 10, 11, 12, 13, 14, 15, 16, 17, 18] (by decide +kernel) (by decide +kernel)
set_option maxRecDepth 20000 in
theorem gX0_holds_X0_isPossible : GoodIn wsX0_holds (wsV RX0 71 RX0 yX0_isPossible wsX0_isPossible) := goodIn_app (goodIn_of _ (by decide +kernel)) ggX0_holds_X0_isPossible
theorem dX0_holds_0 : decode cX0_holds 0 = .ok (.aload_n 0, 1) := by decide +kernel
theorem dX0_holds_1 : decode cX0_holds 1 = .ok (.invokevirtual 71, 3) := by decide +kernel
theorem dX0_holds_4 : decode cX0_holds 4 = .ok (.ireturn, 1) := by decide +kernel
set_option maxRecDepth 20000 in
theorem ggX0_late_X0_checkTurn : GoodIn wsX0_late wsX0_checkTurn := goodIn_ca (goodIn_r _ [16, 17, 18, 6, 40, 41, 42, 43, 44, 45, 46, 47, 48, 49, 50, 51] (by decide +kernel) (by decide +kernel)) (goodIn_sub (fun _ h => List.mem_cons_of_mem _ (List.mem_append_right _ h)) (by decide +kernel))
set_option maxRecDepth 20000 in
theorem gX0_late_X0_checkTurn : GoodIn wsX0_late (wsV RX0 52 RX0 yX0_checkTurn wsX0_checkTurn) := goodIn_app (goodIn_of _ (by decide +kernel)) ggX0_late_X0_checkTurn
set_option maxRecDepth 20000 in
theorem ggX0_late_X0_checkPossible : GoodIn wsX0_late wsX0_checkPossible := goodIn_ca (goodIn_r _ [22, 3, 4, 23, 24, 25, 15, 26, 27, 40, 41, 42, 43, 44, 45, 46, 47, 48, 49, 50, 51] (by decide +kernel) (by decide +kernel)) (goodIn_sub (fun _ h => List.mem_cons_of_mem _ (List.mem_append_left _ (List.mem_append_right _ h))) (by decide +kernel))
set_option maxRecDepth 20000 in
theorem gX0_late_X0_checkPossible : GoodIn wsX0_late (wsV RX0 112 RX0 yX0_checkPossible wsX0_checkPossible) := goodIn_app (goodIn_of _ (by decide +kernel)) ggX0_late_X0_checkPossible
set_option maxRecDepth 20000 in
theorem ggX0_late_X0_lastOf : GoodIn wsX0_late wsX0_lastOf := goodIn_r _ [31, 6, 32, 33, 10, 34, 40, 41, 42, 43, 44, 45, 46, 47, 48, 49, 50, 51] (by decide +kernel) (by decide +kernel)
set_option maxRecDepth 20000 in
theorem gX0_late_X0_lastOf : GoodIn wsX0_late (wsV RX0 97 RX0 yX0_lastOf wsX0_lastOf) := goodIn_app (goodIn_of _ (by decide +kernel)) ggX0_late_X0_lastOf
set_option maxRecDepth 20000 in
theorem ggX0_late_X0_boundFrom : GoodIn wsX0_late wsX0_boundFrom := goodIn_r _ [38, 39, 40, 41, 42, 43, 44, 45, 46, 47, 48, 49, 50, 51] (by decide +kernel) (by decide +kernel)
set_option maxRecDepth 20000 in
theorem gX0_late_X0_boundFrom : GoodIn wsX0_late (wsV RX0 117 RX0 yX0_boundFrom wsX0_boundFrom) := goodIn_app (goodIn_of _ (by decide +kernel)) ggX0_late_X0_boundFrom
theorem dX0_late_0 : decode cX0_late 0 = .ok (.aload_n 0, 1) := by decide +kernel
theorem dX0_late_1 : decode cX0_late 1 = .ok (.iload_n 1, 1) := by decide +kernel
theorem dX0_late_2 : decode cX0_late 2 = .ok (.invokevirtual 52, 3) := by decide +kernel
theorem dX0_late_5 : decode cX0_late 5 = .ok (.iload_n 2, 1) := by decide +kernel
theorem dX0_late_6 : decode cX0_late 6 = .ok (.ifCond .lt 10, 3) := by decide +kernel
theorem dX0_late_9 : decode cX0_late 9 = .ok (.iload_n 2, 1) := by decide +kernel
theorem dX0_late_10 : decode cX0_late 10 = .ok (.sipush 9999, 3) := by decide +kernel
theorem dX0_late_13 : decode cX0_late 13 = .ok (.if_icmp .le 13, 3) := by decide +kernel
theorem dX0_late_16 : decode cX0_late 16 = .ok (.new 107, 3) := by decide +kernel
theorem dX0_late_19 : decode cX0_late 19 = .ok (.dup, 1) := by decide +kernel
theorem dX0_late_20 : decode cX0_late 20 = .ok (.ldc 109, 2) := by decide +kernel
theorem dX0_late_22 : decode cX0_late 22 = .ok (.invokespecial 111, 3) := by decide +kernel
theorem dX0_late_25 : decode cX0_late 25 = .ok (.athrow, 1) := by decide +kernel
theorem dX0_late_26 : decode cX0_late 26 = .ok (.aload_n 0, 1) := by decide +kernel
theorem dX0_late_27 : decode cX0_late 27 = .ok (.invokevirtual 112, 3) := by decide +kernel
theorem dX0_late_30 : decode cX0_late 30 = .ok (.aload_n 0, 1) := by decide +kernel
theorem dX0_late_31 : decode cX0_late 31 = .ok (.aload_n 0, 1) := by decide +kernel
theorem dX0_late_32 : decode cX0_late 32 = .ok (.getfield 23, 3) := by decide +kernel
theorem dX0_late_35 : decode cX0_late 35 = .ok (.invokevirtual 97, 3) := by decide +kernel
theorem dX0_late_38 : decode cX0_late 38 = .ok (.iload_n 2, 1) := by decide +kernel
theorem dX0_late_39 : decode cX0_late 39 = .ok (.if_icmp .le 13, 3) := by decide +kernel
theorem dX0_late_42 : decode cX0_late 42 = .ok (.new 45, 3) := by decide +kernel
theorem dX0_late_45 : decode cX0_late 45 = .ok (.dup, 1) := by decide +kernel
theorem dX0_late_46 : decode cX0_late 46 = .ok (.ldc 115, 2) := by decide +kernel
theorem dX0_late_48 : decode cX0_late 48 = .ok (.invokespecial 49, 3) := by decide +kernel
theorem dX0_late_51 : decode cX0_late 51 = .ok (.athrow, 1) := by decide +kernel
theorem dX0_late_52 : decode cX0_late 52 = .ok (.iload_n 2, 1) := by decide +kernel
theorem dX0_late_53 : decode cX0_late 53 = .ok (.istore_n 3, 1) := by decide +kernel
theorem dX0_late_54 : decode cX0_late 54 = .ok (.iconst 0, 1) := by decide +kernel
theorem dX0_late_55 : decode cX0_late 55 = .ok (.istore 4, 2) := by decide +kernel
theorem dX0_late_57 : decode cX0_late 57 = .ok (.iload 4, 2) := by decide +kernel
theorem dX0_late_59 : decode cX0_late 59 = .ok (.aload_n 0, 1) := by decide +kernel
theorem dX0_late_60 : decode cX0_late 60 = .ok (.getfield 41, 3) := by decide +kernel
theorem dX0_late_63 : decode cX0_late 63 = .ok (.if_icmp .ge 34, 3) := by decide +kernel
theorem dX0_late_66 : decode cX0_late 66 = .ok (.aload_n 0, 1) := by decide +kernel
theorem dX0_late_67 : decode cX0_late 67 = .ok (.iload 4, 2) := by decide +kernel
theorem dX0_late_69 : decode cX0_late 69 = .ok (.iload_n 1, 1) := by decide +kernel
theorem dX0_late_70 : decode cX0_late 70 = .ok (.invokevirtual 117, 3) := by decide +kernel
theorem dX0_late_73 : decode cX0_late 73 = .ok (.istore 5, 2) := by decide +kernel
theorem dX0_late_75 : decode cX0_late 75 = .ok (.iload 5, 2) := by decide +kernel
theorem dX0_late_77 : decode cX0_late 77 = .ok (.ldc 121, 2) := by decide +kernel
theorem dX0_late_79 : decode cX0_late 79 = .ok (.if_icmp .eq 12, 3) := by decide +kernel
theorem dX0_late_82 : decode cX0_late 82 = .ok (.iload_n 3, 1) := by decide +kernel
theorem dX0_late_83 : decode cX0_late 83 = .ok (.iload_n 2, 1) := by decide +kernel
theorem dX0_late_84 : decode cX0_late 84 = .ok (.iload 5, 2) := by decide +kernel
theorem dX0_late_86 : decode cX0_late 86 = .ok (.iadd, 1) := by decide +kernel
theorem dX0_late_87 : decode cX0_late 87 = .ok (.invokestatic 122, 3) := by decide +kernel
theorem dX0_late_90 : decode cX0_late 90 = .ok (.istore_n 3, 1) := by decide +kernel
theorem dX0_late_91 : decode cX0_late 91 = .ok (.iinc 4 1, 3) := by decide +kernel
theorem dX0_late_94 : decode cX0_late 94 = .ok (.goto (-37), 3) := by decide +kernel
theorem dX0_late_97 : decode cX0_late 97 = .ok (.iload_n 3, 1) := by decide +kernel
theorem dX0_late_98 : decode cX0_late 98 = .ok (.ireturn, 1) := by decide +kernel
set_option maxRecDepth 20000 in
theorem ggX0_most_X0_checkTurn : GoodIn wsX0_most wsX0_checkTurn := goodIn_ca (goodIn_r _ [5, 6, 7, 8, 25, 26, 27, 28, 29, 30, 31, 32, 33, 34, 35, 36] (by decide +kernel) (by decide +kernel)) (goodIn_sub (fun _ h => List.mem_cons_of_mem _ (List.mem_append_left _ (List.mem_append_right _ h))) (by decide +kernel))
set_option maxRecDepth 20000 in
theorem gX0_most_X0_checkTurn : GoodIn wsX0_most (wsV RX0 52 RX0 yX0_checkTurn wsX0_checkTurn) := goodIn_app (goodIn_of _ (by decide +kernel)) ggX0_most_X0_checkTurn
set_option maxRecDepth 20000 in
theorem ggX0_most_X0_checkPossible : GoodIn wsX0_most wsX0_checkPossible := goodIn_ca (goodIn_r _ [12, 13, 14, 15, 16, 17, 4, 18, 19, 25, 26, 27, 28, 29, 30, 31, 32, 33, 34, 35, 36] (by decide +kernel) (by decide +kernel)) (goodIn_sub (fun _ h => List.mem_cons_of_mem _ (List.mem_append_right _ h)) (by decide +kernel))
set_option maxRecDepth 20000 in
theorem gX0_most_X0_checkPossible : GoodIn wsX0_most (wsV RX0 112 RX0 yX0_checkPossible wsX0_checkPossible) := goodIn_app (goodIn_of _ (by decide +kernel)) ggX0_most_X0_checkPossible
set_option maxRecDepth 20000 in
theorem ggX0_most_X0_boundFrom : GoodIn wsX0_most wsX0_boundFrom := goodIn_r _ [23, 24, 25, 26, 27, 28, 29, 30, 31, 32, 33, 34, 35, 36] (by decide +kernel) (by decide +kernel)
set_option maxRecDepth 20000 in
theorem gX0_most_X0_boundFrom : GoodIn wsX0_most (wsV RX0 117 RX0 yX0_boundFrom wsX0_boundFrom) := goodIn_app (goodIn_of _ (by decide +kernel)) ggX0_most_X0_boundFrom
theorem dX0_most_0 : decode cX0_most 0 = .ok (.aload_n 0, 1) := by decide +kernel
theorem dX0_most_1 : decode cX0_most 1 = .ok (.iload_n 1, 1) := by decide +kernel
theorem dX0_most_2 : decode cX0_most 2 = .ok (.invokevirtual 52, 3) := by decide +kernel
theorem dX0_most_5 : decode cX0_most 5 = .ok (.aload_n 0, 1) := by decide +kernel
theorem dX0_most_6 : decode cX0_most 6 = .ok (.iload_n 2, 1) := by decide +kernel
theorem dX0_most_7 : decode cX0_most 7 = .ok (.invokevirtual 52, 3) := by decide +kernel
theorem dX0_most_10 : decode cX0_most 10 = .ok (.aload_n 0, 1) := by decide +kernel
theorem dX0_most_11 : decode cX0_most 11 = .ok (.invokevirtual 112, 3) := by decide +kernel
theorem dX0_most_14 : decode cX0_most 14 = .ok (.aload_n 0, 1) := by decide +kernel
theorem dX0_most_15 : decode cX0_most 15 = .ok (.iload_n 1, 1) := by decide +kernel
theorem dX0_most_16 : decode cX0_most 16 = .ok (.iload_n 2, 1) := by decide +kernel
theorem dX0_most_17 : decode cX0_most 17 = .ok (.invokevirtual 117, 3) := by decide +kernel
theorem dX0_most_20 : decode cX0_most 20 = .ok (.ireturn, 1) := by decide +kernel
set_option maxRecDepth 20000 in
theorem ggX0_room_X0_checkRope : GoodIn wsX0_room wsX0_checkRope := goodIn_ca (goodIn_r _ [10, 11, 12, 13, 37, 38, 39, 40, 41, 42, 43, 44, 45, 46, 47, 48] (by decide +kernel) (by decide +kernel)) (goodIn_sub (fun _ h => List.mem_cons_of_mem _ (List.mem_append_right _ h)) (by decide +kernel))
set_option maxRecDepth 20000 in
theorem gX0_room_X0_checkRope : GoodIn wsX0_room (wsV RX0 68 RX0 yX0_checkRope wsX0_checkRope) := goodIn_app (goodIn_of _ (by decide +kernel)) ggX0_room_X0_checkRope
set_option maxRecDepth 20000 in
theorem ggX0_room_X0_checkPossible : GoodIn wsX0_room wsX0_checkPossible := goodIn_ca (goodIn_r _ [17, 1, 2, 18, 19, 20, 9, 21, 22, 37, 38, 39, 40, 41, 42, 43, 44, 45, 46, 47, 48] (by decide +kernel) (by decide +kernel)) (goodIn_sub (fun _ h => List.mem_cons_of_mem _ (List.mem_append_left _ (List.mem_append_right _ h))) (by decide +kernel))
set_option maxRecDepth 20000 in
theorem gX0_room_X0_checkPossible : GoodIn wsX0_room (wsV RX0 112 RX0 yX0_checkPossible wsX0_checkPossible) := goodIn_app (goodIn_of _ (by decide +kernel)) ggX0_room_X0_checkPossible
set_option maxRecDepth 20000 in
theorem ggX0_room_X0_leastLength : GoodIn wsX0_room wsX0_leastLength := goodIn_r _ [26, 27, 28, 29, 30, 31, 32, 33, 34, 9, 35, 36, 37, 38, 39, 40, 41, 42, 43, 44, 45, 46, 47, 48] (by decide +kernel) (by decide +kernel)
set_option maxRecDepth 20000 in
theorem gX0_room_X0_leastLength : GoodIn wsX0_room (wsV RX0 129 RX0 yX0_leastLength wsX0_leastLength) := goodIn_app (goodIn_of _ (by decide +kernel)) ggX0_room_X0_leastLength
theorem dX0_room_0 : decode cX0_room 0 = .ok (.aload_n 0, 1) := by decide +kernel
theorem dX0_room_1 : decode cX0_room 1 = .ok (.iload_n 1, 1) := by decide +kernel
theorem dX0_room_2 : decode cX0_room 2 = .ok (.invokevirtual 68, 3) := by decide +kernel
theorem dX0_room_5 : decode cX0_room 5 = .ok (.aload_n 0, 1) := by decide +kernel
theorem dX0_room_6 : decode cX0_room 6 = .ok (.getfield 19, 3) := by decide +kernel
theorem dX0_room_9 : decode cX0_room 9 = .ok (.iload_n 1, 1) := by decide +kernel
theorem dX0_room_10 : decode cX0_room 10 = .ok (.baload, 1) := by decide +kernel
theorem dX0_room_11 : decode cX0_room 11 = .ok (.ifCond .ne 13, 3) := by decide +kernel
theorem dX0_room_14 : decode cX0_room 14 = .ok (.new 45, 3) := by decide +kernel
theorem dX0_room_17 : decode cX0_room 17 = .ok (.dup, 1) := by decide +kernel
theorem dX0_room_18 : decode cX0_room 18 = .ok (.ldc 127, 2) := by decide +kernel
theorem dX0_room_20 : decode cX0_room 20 = .ok (.invokespecial 49, 3) := by decide +kernel
theorem dX0_room_23 : decode cX0_room 23 = .ok (.athrow, 1) := by decide +kernel
theorem dX0_room_24 : decode cX0_room 24 = .ok (.aload_n 0, 1) := by decide +kernel
theorem dX0_room_25 : decode cX0_room 25 = .ok (.invokevirtual 112, 3) := by decide +kernel
theorem dX0_room_28 : decode cX0_room 28 = .ok (.aload_n 0, 1) := by decide +kernel
theorem dX0_room_29 : decode cX0_room 29 = .ok (.aload_n 0, 1) := by decide +kernel
theorem dX0_room_30 : decode cX0_room 30 = .ok (.getfield 9, 3) := by decide +kernel
theorem dX0_room_33 : decode cX0_room 33 = .ok (.iload_n 1, 1) := by decide +kernel
theorem dX0_room_34 : decode cX0_room 34 = .ok (.iaload, 1) := by decide +kernel
theorem dX0_room_35 : decode cX0_room 35 = .ok (.aload_n 0, 1) := by decide +kernel
theorem dX0_room_36 : decode cX0_room 36 = .ok (.getfield 13, 3) := by decide +kernel
theorem dX0_room_39 : decode cX0_room 39 = .ok (.iload_n 1, 1) := by decide +kernel
theorem dX0_room_40 : decode cX0_room 40 = .ok (.iaload, 1) := by decide +kernel
theorem dX0_room_41 : decode cX0_room 41 = .ok (.invokevirtual 129, 3) := by decide +kernel
theorem dX0_room_44 : decode cX0_room 44 = .ok (.ireturn, 1) := by decide +kernel
set_option maxRecDepth 20000 in
theorem ggX0_advise_X0_isPossible : GoodIn wsX0_advise wsX0_isPossible := goodIn_r _ [10, 11, 32, 33, 34, 35, 36, 37, 38, 39, 40, 41, 42, 43] (by decide +kernel) (by decide +kernel)
set_option maxRecDepth 20000 in
theorem gX0_advise_X0_isPossible : GoodIn wsX0_advise (wsV RX0 71 RX0 yX0_isPossible wsX0_isPossible) := goodIn_app (goodIn_of _ (by decide +kernel)) ggX0_advise_X0_isPossible
set_option maxRecDepth 20000 in
theorem ggX0_advise_X0_lastOf : GoodIn wsX0_advise wsX0_lastOf := goodIn_r _ [15, 16, 17, 18, 19, 20, 32, 33, 34, 35, 36, 37, 38, 39, 40, 41, 42, 43] (by decide +kernel) (by decide +kernel)
set_option maxRecDepth 20000 in
theorem gX0_advise_X0_lastOf : GoodIn wsX0_advise (wsV RX0 97 RX0 yX0_lastOf wsX0_lastOf) := goodIn_app (goodIn_of _ (by decide +kernel)) ggX0_advise_X0_lastOf
set_option maxRecDepth 20000 in
theorem ggX0_advise_X0_findEarliest : GoodIn wsX0_advise wsX0_findEarliest := goodIn_r _ [24, 16, 25, 26, 27, 9, 28, 3, 4, 29, 30, 31, 32, 33, 34, 35, 36, 37, 38, 39, 40, 41, 42, 43] (by decide +kernel) (by decide +kernel)
set_option maxRecDepth 20000 in
theorem gX0_advise_X0_findEarliest : GoodIn wsX0_advise (wsV RX0 140 RX0 yX0_findEarliest wsX0_findEarliest) := goodIn_app (goodIn_of _ (by decide +kernel)) ggX0_advise_X0_findEarliest
theorem dX0_advise_0 : decode cX0_advise 0 = .ok (.iconst (-1), 1) := by decide +kernel
theorem dX0_advise_1 : decode cX0_advise 1 = .ok (.istore_n 1, 1) := by decide +kernel
theorem dX0_advise_2 : decode cX0_advise 2 = .ok (.aload_n 0, 1) := by decide +kernel
theorem dX0_advise_3 : decode cX0_advise 3 = .ok (.invokevirtual 71, 3) := by decide +kernel
theorem dX0_advise_6 : decode cX0_advise 6 = .ok (.ifCond .eq 14, 3) := by decide +kernel
theorem dX0_advise_9 : decode cX0_advise 9 = .ok (.aload_n 0, 1) := by decide +kernel
theorem dX0_advise_10 : decode cX0_advise 10 = .ok (.aload_n 0, 1) := by decide +kernel
theorem dX0_advise_11 : decode cX0_advise 11 = .ok (.getfield 23, 3) := by decide +kernel
theorem dX0_advise_14 : decode cX0_advise 14 = .ok (.invokevirtual 97, 3) := by decide +kernel
theorem dX0_advise_17 : decode cX0_advise 17 = .ok (.goto 5, 3) := by decide +kernel
theorem dX0_advise_20 : decode cX0_advise 20 = .ok (.ldc 121, 2) := by decide +kernel
theorem dX0_advise_22 : decode cX0_advise 22 = .ok (.istore_n 2, 1) := by decide +kernel
theorem dX0_advise_23 : decode cX0_advise 23 = .ok (.iconst 0, 1) := by decide +kernel
theorem dX0_advise_24 : decode cX0_advise 24 = .ok (.istore_n 3, 1) := by decide +kernel
theorem dX0_advise_25 : decode cX0_advise 25 = .ok (.iload_n 3, 1) := by decide +kernel
theorem dX0_advise_26 : decode cX0_advise 26 = .ok (.aload_n 0, 1) := by decide +kernel
theorem dX0_advise_27 : decode cX0_advise 27 = .ok (.getfield 63, 3) := by decide +kernel
theorem dX0_advise_30 : decode cX0_advise 30 = .ok (.if_icmp .ge 52, 3) := by decide +kernel
theorem dX0_advise_33 : decode cX0_advise 33 = .ok (.aload_n 0, 1) := by decide +kernel
theorem dX0_advise_34 : decode cX0_advise 34 = .ok (.getfield 19, 3) := by decide +kernel
theorem dX0_advise_37 : decode cX0_advise 37 = .ok (.iload_n 3, 1) := by decide +kernel
theorem dX0_advise_38 : decode cX0_advise 38 = .ok (.baload, 1) := by decide +kernel
theorem dX0_advise_39 : decode cX0_advise 39 = .ok (.ifCond .eq 37, 3) := by decide +kernel
theorem dX0_advise_42 : decode cX0_advise 42 = .ok (.aload_n 0, 1) := by decide +kernel
theorem dX0_advise_43 : decode cX0_advise 43 = .ok (.aload_n 0, 1) := by decide +kernel
theorem dX0_advise_44 : decode cX0_advise 44 = .ok (.getfield 29, 3) := by decide +kernel
theorem dX0_advise_47 : decode cX0_advise 47 = .ok (.iload_n 3, 1) := by decide +kernel
theorem dX0_advise_48 : decode cX0_advise 48 = .ok (.invokevirtual 140, 3) := by decide +kernel
theorem dX0_advise_51 : decode cX0_advise 51 = .ok (.iconst (-1), 1) := by decide +kernel
theorem dX0_advise_52 : decode cX0_advise 52 = .ok (.if_icmp .eq 24, 3) := by decide +kernel
theorem dX0_advise_55 : decode cX0_advise 55 = .ok (.aload_n 0, 1) := by decide +kernel
theorem dX0_advise_56 : decode cX0_advise 56 = .ok (.aload_n 0, 1) := by decide +kernel
theorem dX0_advise_57 : decode cX0_advise 57 = .ok (.getfield 29, 3) := by decide +kernel
theorem dX0_advise_60 : decode cX0_advise 60 = .ok (.invokevirtual 97, 3) := by decide +kernel
theorem dX0_advise_63 : decode cX0_advise 63 = .ok (.istore 4, 2) := by decide +kernel
theorem dX0_advise_65 : decode cX0_advise 65 = .ok (.iload 4, 2) := by decide +kernel
theorem dX0_advise_67 : decode cX0_advise 67 = .ok (.iload_n 2, 1) := by decide +kernel
theorem dX0_advise_68 : decode cX0_advise 68 = .ok (.if_icmp .ge 8, 3) := by decide +kernel
theorem dX0_advise_71 : decode cX0_advise 71 = .ok (.iload 4, 2) := by decide +kernel
theorem dX0_advise_73 : decode cX0_advise 73 = .ok (.istore_n 2, 1) := by decide +kernel
theorem dX0_advise_74 : decode cX0_advise 74 = .ok (.iload_n 3, 1) := by decide +kernel
theorem dX0_advise_75 : decode cX0_advise 75 = .ok (.istore_n 1, 1) := by decide +kernel
theorem dX0_advise_76 : decode cX0_advise 76 = .ok (.iinc 3 1, 3) := by decide +kernel
theorem dX0_advise_79 : decode cX0_advise 79 = .ok (.goto (-54), 3) := by decide +kernel
theorem dX0_advise_82 : decode cX0_advise 82 = .ok (.iload_n 1, 1) := by decide +kernel
theorem dX0_advise_83 : decode cX0_advise 83 = .ok (.ireturn, 1) := by decide +kernel
set_option maxRecDepth 20000 in
theorem ggX0_mean_X0_isPossible : GoodIn wsX0_mean wsX0_isPossible := goodIn_r _ [7, 8, 9, 10, 11, 12, 13, 14, 15, 16, 17, 18, 19, 20] (by decide +kernel) (by decide +kernel)
set_option maxRecDepth 20000 in
theorem gX0_mean_X0_isPossible : GoodIn wsX0_mean (wsV RX0 71 RX0 yX0_isPossible wsX0_isPossible) := goodIn_app (goodIn_of _ (by decide +kernel)) ggX0_mean_X0_isPossible
theorem dX0_mean_0 : decode cX0_mean 0 = .ok (.aload_n 0, 1) := by decide +kernel
theorem dX0_mean_1 : decode cX0_mean 1 = .ok (.getfield 41, 3) := by decide +kernel
theorem dX0_mean_4 : decode cX0_mean 4 = .ok (.ifCond .eq 10, 3) := by decide +kernel
theorem dX0_mean_7 : decode cX0_mean 7 = .ok (.aload_n 0, 1) := by decide +kernel
theorem dX0_mean_8 : decode cX0_mean 8 = .ok (.invokevirtual 71, 3) := by decide +kernel
theorem dX0_mean_11 : decode cX0_mean 11 = .ok (.ifCond .ne 5, 3) := by decide +kernel
theorem dX0_mean_14 : decode cX0_mean 14 = .ok (.dconst 0, 1) := by decide +kernel
theorem dX0_mean_15 : decode cX0_mean 15 = .ok (.dreturn, 1) := by decide +kernel
theorem dX0_mean_16 : decode cX0_mean 16 = .ok (.iconst 0, 1) := by decide +kernel
theorem dX0_mean_17 : decode cX0_mean 17 = .ok (.istore_n 1, 1) := by decide +kernel
theorem dX0_mean_18 : decode cX0_mean 18 = .ok (.iconst 0, 1) := by decide +kernel
theorem dX0_mean_19 : decode cX0_mean 19 = .ok (.istore_n 2, 1) := by decide +kernel
theorem dX0_mean_20 : decode cX0_mean 20 = .ok (.iload_n 2, 1) := by decide +kernel
theorem dX0_mean_21 : decode cX0_mean 21 = .ok (.aload_n 0, 1) := by decide +kernel
theorem dX0_mean_22 : decode cX0_mean 22 = .ok (.getfield 41, 3) := by decide +kernel
theorem dX0_mean_25 : decode cX0_mean 25 = .ok (.if_icmp .ge 18, 3) := by decide +kernel
theorem dX0_mean_28 : decode cX0_mean 28 = .ok (.iload_n 1, 1) := by decide +kernel
theorem dX0_mean_29 : decode cX0_mean 29 = .ok (.aload_n 0, 1) := by decide +kernel
theorem dX0_mean_30 : decode cX0_mean 30 = .ok (.getfield 23, 3) := by decide +kernel
theorem dX0_mean_33 : decode cX0_mean 33 = .ok (.iload_n 2, 1) := by decide +kernel
theorem dX0_mean_34 : decode cX0_mean 34 = .ok (.iaload, 1) := by decide +kernel
theorem dX0_mean_35 : decode cX0_mean 35 = .ok (.iadd, 1) := by decide +kernel
theorem dX0_mean_36 : decode cX0_mean 36 = .ok (.istore_n 1, 1) := by decide +kernel
theorem dX0_mean_37 : decode cX0_mean 37 = .ok (.iinc 2 1, 3) := by decide +kernel
theorem dX0_mean_40 : decode cX0_mean 40 = .ok (.goto (-20), 3) := by decide +kernel
theorem dX0_mean_43 : decode cX0_mean 43 = .ok (.iload_n 1, 1) := by decide +kernel
theorem dX0_mean_44 : decode cX0_mean 44 = .ok (.i2d, 1) := by decide +kernel
theorem dX0_mean_45 : decode cX0_mean 45 = .ok (.aload_n 0, 1) := by decide +kernel
theorem dX0_mean_46 : decode cX0_mean 46 = .ok (.getfield 41, 3) := by decide +kernel
theorem dX0_mean_49 : decode cX0_mean 49 = .ok (.i2d, 1) := by decide +kernel
theorem dX0_mean_50 : decode cX0_mean 50 = .ok (.ddiv, 1) := by decide +kernel
theorem dX0_mean_51 : decode cX0_mean 51 = .ok (.dreturn, 1) := by decide +kernel
theorem dX0_checkTurn_0 : decode cX0_checkTurn 0 = .ok (.iload_n 1, 1) := by decide +kernel
theorem dX0_checkTurn_1 : decode cX0_checkTurn 1 = .ok (.ifCond .lt 11, 3) := by decide +kernel
theorem dX0_checkTurn_4 : decode cX0_checkTurn 4 = .ok (.iload_n 1, 1) := by decide +kernel
theorem dX0_checkTurn_5 : decode cX0_checkTurn 5 = .ok (.aload_n 0, 1) := by decide +kernel
theorem dX0_checkTurn_6 : decode cX0_checkTurn 6 = .ok (.getfield 41, 3) := by decide +kernel
theorem dX0_checkTurn_9 : decode cX0_checkTurn 9 = .ok (.if_icmp .lt 13, 3) := by decide +kernel
theorem dX0_checkTurn_12 : decode cX0_checkTurn 12 = .ok (.new 132, 3) := by decide +kernel
theorem dX0_checkTurn_15 : decode cX0_checkTurn 15 = .ok (.dup, 1) := by decide +kernel
theorem dX0_checkTurn_16 : decode cX0_checkTurn 16 = .ok (.ldc 161, 2) := by decide +kernel
theorem dX0_checkTurn_18 : decode cX0_checkTurn 18 = .ok (.invokespecial 136, 3) := by decide +kernel
theorem dX0_checkTurn_21 : decode cX0_checkTurn 21 = .ok (.athrow, 1) := by decide +kernel
theorem dX0_checkTurn_22 : decode cX0_checkTurn 22 = .ok (.return_, 1) := by decide +kernel
theorem dX0_checkRope_0 : decode cX0_checkRope 0 = .ok (.iload_n 1, 1) := by decide +kernel
theorem dX0_checkRope_1 : decode cX0_checkRope 1 = .ok (.ifCond .lt 11, 3) := by decide +kernel
theorem dX0_checkRope_4 : decode cX0_checkRope 4 = .ok (.iload_n 1, 1) := by decide +kernel
theorem dX0_checkRope_5 : decode cX0_checkRope 5 = .ok (.aload_n 0, 1) := by decide +kernel
theorem dX0_checkRope_6 : decode cX0_checkRope 6 = .ok (.getfield 63, 3) := by decide +kernel
theorem dX0_checkRope_9 : decode cX0_checkRope 9 = .ok (.if_icmp .lt 13, 3) := by decide +kernel
theorem dX0_checkRope_12 : decode cX0_checkRope 12 = .ok (.new 132, 3) := by decide +kernel
theorem dX0_checkRope_15 : decode cX0_checkRope 15 = .ok (.dup, 1) := by decide +kernel
theorem dX0_checkRope_16 : decode cX0_checkRope 16 = .ok (.ldc 163, 2) := by decide +kernel
theorem dX0_checkRope_18 : decode cX0_checkRope 18 = .ok (.invokespecial 136, 3) := by decide +kernel
theorem dX0_checkRope_21 : decode cX0_checkRope 21 = .ok (.athrow, 1) := by decide +kernel
theorem dX0_checkRope_22 : decode cX0_checkRope 22 = .ok (.return_, 1) := by decide +kernel
theorem dX0_checkKind_0 : decode cX0_checkKind 0 = .ok (.iload_n 0, 1) := by decide +kernel
theorem dX0_checkKind_1 : decode cX0_checkKind 1 = .ok (.ifCond .lt 8, 3) := by decide +kernel
theorem dX0_checkKind_4 : decode cX0_checkKind 4 = .ok (.iload_n 0, 1) := by decide +kernel
theorem dX0_checkKind_5 : decode cX0_checkKind 5 = .ok (.iload_n 1, 1) := by decide +kernel
theorem dX0_checkKind_6 : decode cX0_checkKind 6 = .ok (.if_icmp .lt 13, 3) := by decide +kernel
theorem dX0_checkKind_9 : decode cX0_checkKind 9 = .ok (.new 132, 3) := by decide +kernel
theorem dX0_checkKind_12 : decode cX0_checkKind 12 = .ok (.dup, 1) := by decide +kernel
theorem dX0_checkKind_13 : decode cX0_checkKind 13 = .ok (.ldc 165, 2) := by decide +kernel
theorem dX0_checkKind_15 : decode cX0_checkKind 15 = .ok (.invokespecial 136, 3) := by decide +kernel
theorem dX0_checkKind_18 : decode cX0_checkKind 18 = .ok (.athrow, 1) := by decide +kernel
theorem dX0_checkKind_19 : decode cX0_checkKind 19 = .ok (.return_, 1) := by decide +kernel
theorem dX0_checkTwoTurns_0 : decode cX0_checkTwoTurns 0 = .ok (.iload_n 0, 1) := by decide +kernel
theorem dX0_checkTwoTurns_1 : decode cX0_checkTwoTurns 1 = .ok (.iload_n 1, 1) := by decide +kernel
theorem dX0_checkTwoTurns_2 : decode cX0_checkTwoTurns 2 = .ok (.if_icmp .ne 13, 3) := by decide +kernel
theorem dX0_checkTwoTurns_5 : decode cX0_checkTwoTurns 5 = .ok (.new 107, 3) := by decide +kernel
theorem dX0_checkTwoTurns_8 : decode cX0_checkTwoTurns 8 = .ok (.dup, 1) := by decide +kernel
theorem dX0_checkTwoTurns_9 : decode cX0_checkTwoTurns 9 = .ok (.ldc 167, 2) := by decide +kernel
theorem dX0_checkTwoTurns_11 : decode cX0_checkTwoTurns 11 = .ok (.invokespecial 111, 3) := by decide +kernel
theorem dX0_checkTwoTurns_14 : decode cX0_checkTwoTurns 14 = .ok (.athrow, 1) := by decide +kernel
theorem dX0_checkTwoTurns_15 : decode cX0_checkTwoTurns 15 = .ok (.return_, 1) := by decide +kernel
theorem dX0_checkLength_0 : decode cX0_checkLength 0 = .ok (.iload_n 0, 1) := by decide +kernel
theorem dX0_checkLength_1 : decode cX0_checkLength 1 = .ok (.bipush (-99), 2) := by decide +kernel
theorem dX0_checkLength_3 : decode cX0_checkLength 3 = .ok (.if_icmp .lt 9, 3) := by decide +kernel
theorem dX0_checkLength_6 : decode cX0_checkLength 6 = .ok (.iload_n 0, 1) := by decide +kernel
theorem dX0_checkLength_7 : decode cX0_checkLength 7 = .ok (.bipush 99, 2) := by decide +kernel
theorem dX0_checkLength_9 : decode cX0_checkLength 9 = .ok (.if_icmp .le 13, 3) := by decide +kernel
theorem dX0_checkLength_12 : decode cX0_checkLength 12 = .ok (.new 107, 3) := by decide +kernel
theorem dX0_checkLength_15 : decode cX0_checkLength 15 = .ok (.dup, 1) := by decide +kernel
theorem dX0_checkLength_16 : decode cX0_checkLength 16 = .ok (.ldc 169, 2) := by decide +kernel
theorem dX0_checkLength_18 : decode cX0_checkLength 18 = .ok (.invokespecial 111, 3) := by decide +kernel
theorem dX0_checkLength_21 : decode cX0_checkLength 21 = .ok (.athrow, 1) := by decide +kernel
theorem dX0_checkLength_22 : decode cX0_checkLength 22 = .ok (.return_, 1) := by decide +kernel
set_option maxRecDepth 20000 in
theorem ggX0_checkPossible_X0_isPossible : GoodIn wsX0_checkPossible wsX0_isPossible := goodIn_r _ [7, 8, 9, 10, 11, 12, 13, 14, 15, 16, 17, 18, 19, 20] (by decide +kernel) (by decide +kernel)
set_option maxRecDepth 20000 in
theorem gX0_checkPossible_X0_isPossible : GoodIn wsX0_checkPossible (wsV RX0 71 RX0 yX0_isPossible wsX0_isPossible) := goodIn_app (goodIn_of _ (by decide +kernel)) ggX0_checkPossible_X0_isPossible
theorem dX0_checkPossible_0 : decode cX0_checkPossible 0 = .ok (.aload_n 0, 1) := by decide +kernel
theorem dX0_checkPossible_1 : decode cX0_checkPossible 1 = .ok (.invokevirtual 71, 3) := by decide +kernel
theorem dX0_checkPossible_4 : decode cX0_checkPossible 4 = .ok (.ifCond .ne 13, 3) := by decide +kernel
theorem dX0_checkPossible_7 : decode cX0_checkPossible 7 = .ok (.new 45, 3) := by decide +kernel
theorem dX0_checkPossible_10 : decode cX0_checkPossible 10 = .ok (.dup, 1) := by decide +kernel
theorem dX0_checkPossible_11 : decode cX0_checkPossible 11 = .ok (.ldc 171, 2) := by decide +kernel
theorem dX0_checkPossible_13 : decode cX0_checkPossible 13 = .ok (.invokespecial 49, 3) := by decide +kernel
theorem dX0_checkPossible_16 : decode cX0_checkPossible 16 = .ok (.athrow, 1) := by decide +kernel
theorem dX0_checkPossible_17 : decode cX0_checkPossible 17 = .ok (.return_, 1) := by decide +kernel
theorem dX0_isPossible_0 : decode cX0_isPossible 0 = .ok (.aload_n 0, 1) := by decide +kernel
theorem dX0_isPossible_1 : decode cX0_isPossible 1 = .ok (.getfield 94, 3) := by decide +kernel
theorem dX0_isPossible_4 : decode cX0_isPossible 4 = .ok (.iconst (-1), 1) := by decide +kernel
theorem dX0_isPossible_5 : decode cX0_isPossible 5 = .ok (.if_icmp .eq 7, 3) := by decide +kernel
theorem dX0_isPossible_8 : decode cX0_isPossible 8 = .ok (.iconst 1, 1) := by decide +kernel
theorem dX0_isPossible_9 : decode cX0_isPossible 9 = .ok (.goto 4, 3) := by decide +kernel
theorem dX0_isPossible_12 : decode cX0_isPossible 12 = .ok (.iconst 0, 1) := by decide +kernel
theorem dX0_isPossible_13 : decode cX0_isPossible 13 = .ok (.ireturn, 1) := by decide +kernel
set_option maxRecDepth 20000 in
theorem ggX0_settle_X0_findEarliest : GoodIn wsX0_settle wsX0_findEarliest := goodIn_r _ [7, 8, 9, 10, 11, 6, 12, 13, 14, 15, 16, 17, 48, 49, 50, 51, 52, 53, 54, 55, 56, 57, 58, 59] (by decide +kernel) (by decide +kernel)
set_option maxRecDepth 20000 in
theorem gX0_settle_X0_findEarliest : GoodIn wsX0_settle (wsV RX0 140 RX0 yX0_findEarliest wsX0_findEarliest) := goodIn_app (goodIn_of _ (by decide +kernel)) ggX0_settle_X0_findEarliest
set_option maxRecDepth 20000 in
theorem ggX0_settle_X0_isPossible : GoodIn wsX0_settle wsX0_isPossible := goodIn_r _ [21, 2, 48, 49, 50, 51, 52, 53, 54, 55, 56, 57, 58, 59] (by decide +kernel) (by decide +kernel)
set_option maxRecDepth 20000 in
theorem gX0_settle_X0_isPossible : GoodIn wsX0_settle (wsV RX0 71 RX0 yX0_isPossible wsX0_isPossible) := goodIn_app (goodIn_of _ (by decide +kernel)) ggX0_settle_X0_isPossible
set_option maxRecDepth 20000 in
theorem ggX0_settle_X0_findBounds : GoodIn wsX0_settle wsX0_findBounds := goodIn_r _ [25, 8, 26, 27, 28, 29, 6, 30, 31, 13, 14, 17, 15, 16, 32, 33, 34, 35, 36, 37, 38, 39, 40, 41, 42, 43, 44, 45, 46, 47, 48, 49, 50, 51, 52, 53, 54, 55, 56, 57, 58, 59] (by decide +kernel) (by decide +kernel)
set_option maxRecDepth 20000 in
theorem gX0_settle_X0_findBounds : GoodIn wsX0_settle (wsV RX0 173 RX0 yX0_findBounds wsX0_findBounds) := goodIn_app (goodIn_of _ (by decide +kernel)) ggX0_settle_X0_findBounds
theorem dX0_settle_0 : decode cX0_settle 0 = .ok (.aload_n 0, 1) := by decide +kernel
theorem dX0_settle_1 : decode cX0_settle 1 = .ok (.aload_n 0, 1) := by decide +kernel
theorem dX0_settle_2 : decode cX0_settle 2 = .ok (.aload_n 0, 1) := by decide +kernel
theorem dX0_settle_3 : decode cX0_settle 3 = .ok (.getfield 23, 3) := by decide +kernel
theorem dX0_settle_6 : decode cX0_settle 6 = .ok (.iconst (-1), 1) := by decide +kernel
theorem dX0_settle_7 : decode cX0_settle 7 = .ok (.invokevirtual 140, 3) := by decide +kernel
theorem dX0_settle_10 : decode cX0_settle 10 = .ok (.putfield 94, 3) := by decide +kernel
theorem dX0_settle_13 : decode cX0_settle 13 = .ok (.aload_n 0, 1) := by decide +kernel
theorem dX0_settle_14 : decode cX0_settle 14 = .ok (.invokevirtual 71, 3) := by decide +kernel
theorem dX0_settle_17 : decode cX0_settle 17 = .ok (.ifCond .eq 7, 3) := by decide +kernel
theorem dX0_settle_20 : decode cX0_settle 20 = .ok (.aload_n 0, 1) := by decide +kernel
theorem dX0_settle_21 : decode cX0_settle 21 = .ok (.invokevirtual 173, 3) := by decide +kernel
theorem dX0_settle_24 : decode cX0_settle 24 = .ok (.return_, 1) := by decide +kernel
set_option maxRecDepth 20000 in
theorem ggX0_findEarliest_X0_pushOnce : GoodIn wsX0_findEarliest wsX0_pushOnce := goodIn_r _ [6, 7, 8, 9, 10, 11, 12, 13, 14, 15, 16, 17, 18, 19, 20, 21, 22, 23] (by decide +kernel) (by decide +kernel)
set_option maxRecDepth 20000 in
theorem gX0_findEarliest_X0_pushOnce : GoodIn wsX0_findEarliest (wsV RX0 176 RX0 yX0_pushOnce wsX0_pushOnce) := goodIn_app (goodIn_of _ (by decide +kernel)) ggX0_findEarliest_X0_pushOnce
theorem dX0_findEarliest_0 : decode cX0_findEarliest 0 = .ok (.iconst 0, 1) := by decide +kernel
theorem dX0_findEarliest_1 : decode cX0_findEarliest 1 = .ok (.istore_n 3, 1) := by decide +kernel
theorem dX0_findEarliest_2 : decode cX0_findEarliest 2 = .ok (.iload_n 3, 1) := by decide +kernel
theorem dX0_findEarliest_3 : decode cX0_findEarliest 3 = .ok (.aload_n 0, 1) := by decide +kernel
theorem dX0_findEarliest_4 : decode cX0_findEarliest 4 = .ok (.getfield 41, 3) := by decide +kernel
theorem dX0_findEarliest_7 : decode cX0_findEarliest 7 = .ok (.if_icmp .ge 13, 3) := by decide +kernel
theorem dX0_findEarliest_10 : decode cX0_findEarliest 10 = .ok (.aload_n 1, 1) := by decide +kernel
theorem dX0_findEarliest_11 : decode cX0_findEarliest 11 = .ok (.iload_n 3, 1) := by decide +kernel
theorem dX0_findEarliest_12 : decode cX0_findEarliest 12 = .ok (.iconst 0, 1) := by decide +kernel
theorem dX0_findEarliest_13 : decode cX0_findEarliest 13 = .ok (.iastore, 1) := by decide +kernel
theorem dX0_findEarliest_14 : decode cX0_findEarliest 14 = .ok (.iinc 3 1, 3) := by decide +kernel
theorem dX0_findEarliest_17 : decode cX0_findEarliest 17 = .ok (.goto (-15), 3) := by decide +kernel
theorem dX0_findEarliest_20 : decode cX0_findEarliest 20 = .ok (.iconst 0, 1) := by decide +kernel
theorem dX0_findEarliest_21 : decode cX0_findEarliest 21 = .ok (.istore_n 3, 1) := by decide +kernel
theorem dX0_findEarliest_22 : decode cX0_findEarliest 22 = .ok (.iload_n 3, 1) := by decide +kernel
theorem dX0_findEarliest_23 : decode cX0_findEarliest 23 = .ok (.aload_n 0, 1) := by decide +kernel
theorem dX0_findEarliest_24 : decode cX0_findEarliest 24 = .ok (.getfield 41, 3) := by decide +kernel
theorem dX0_findEarliest_27 : decode cX0_findEarliest 27 = .ok (.if_icmp .gt 22, 3) := by decide +kernel
theorem dX0_findEarliest_30 : decode cX0_findEarliest 30 = .ok (.aload_n 0, 1) := by decide +kernel
theorem dX0_findEarliest_31 : decode cX0_findEarliest 31 = .ok (.aload_n 1, 1) := by decide +kernel
theorem dX0_findEarliest_32 : decode cX0_findEarliest 32 = .ok (.iload_n 2, 1) := by decide +kernel
theorem dX0_findEarliest_33 : decode cX0_findEarliest 33 = .ok (.invokevirtual 176, 3) := by decide +kernel
theorem dX0_findEarliest_36 : decode cX0_findEarliest 36 = .ok (.ifCond .ne 7, 3) := by decide +kernel
theorem dX0_findEarliest_39 : decode cX0_findEarliest 39 = .ok (.iload_n 3, 1) := by decide +kernel
theorem dX0_findEarliest_40 : decode cX0_findEarliest 40 = .ok (.iconst 1, 1) := by decide +kernel
theorem dX0_findEarliest_41 : decode cX0_findEarliest 41 = .ok (.iadd, 1) := by decide +kernel
theorem dX0_findEarliest_42 : decode cX0_findEarliest 42 = .ok (.ireturn, 1) := by decide +kernel
theorem dX0_findEarliest_43 : decode cX0_findEarliest 43 = .ok (.iinc 3 1, 3) := by decide +kernel
theorem dX0_findEarliest_46 : decode cX0_findEarliest 46 = .ok (.goto (-24), 3) := by decide +kernel
theorem dX0_findEarliest_49 : decode cX0_findEarliest 49 = .ok (.iconst (-1), 1) := by decide +kernel
theorem dX0_findEarliest_50 : decode cX0_findEarliest 50 = .ok (.ireturn, 1) := by decide +kernel
theorem dX0_pushOnce_0 : decode cX0_pushOnce 0 = .ok (.iconst 0, 1) := by decide +kernel
theorem dX0_pushOnce_1 : decode cX0_pushOnce 1 = .ok (.istore_n 3, 1) := by decide +kernel
theorem dX0_pushOnce_2 : decode cX0_pushOnce 2 = .ok (.iconst 0, 1) := by decide +kernel
theorem dX0_pushOnce_3 : decode cX0_pushOnce 3 = .ok (.istore 4, 2) := by decide +kernel
theorem dX0_pushOnce_5 : decode cX0_pushOnce 5 = .ok (.iload 4, 2) := by decide +kernel
theorem dX0_pushOnce_7 : decode cX0_pushOnce 7 = .ok (.aload_n 0, 1) := by decide +kernel
theorem dX0_pushOnce_8 : decode cX0_pushOnce 8 = .ok (.getfield 63, 3) := by decide +kernel
theorem dX0_pushOnce_11 : decode cX0_pushOnce 11 = .ok (.if_icmp .ge 71, 3) := by decide +kernel
theorem dX0_pushOnce_14 : decode cX0_pushOnce 14 = .ok (.aload_n 0, 1) := by decide +kernel
theorem dX0_pushOnce_15 : decode cX0_pushOnce 15 = .ok (.getfield 19, 3) := by decide +kernel
theorem dX0_pushOnce_18 : decode cX0_pushOnce 18 = .ok (.iload 4, 2) := by decide +kernel
theorem dX0_pushOnce_20 : decode cX0_pushOnce 20 = .ok (.baload, 1) := by decide +kernel
theorem dX0_pushOnce_21 : decode cX0_pushOnce 21 = .ok (.ifCond .eq 55, 3) := by decide +kernel
theorem dX0_pushOnce_24 : decode cX0_pushOnce 24 = .ok (.iload 4, 2) := by decide +kernel
theorem dX0_pushOnce_26 : decode cX0_pushOnce 26 = .ok (.iload_n 2, 1) := by decide +kernel
theorem dX0_pushOnce_27 : decode cX0_pushOnce 27 = .ok (.if_icmp .eq 49, 3) := by decide +kernel
theorem dX0_pushOnce_30 : decode cX0_pushOnce 30 = .ok (.aload_n 1, 1) := by decide +kernel
theorem dX0_pushOnce_31 : decode cX0_pushOnce 31 = .ok (.aload_n 0, 1) := by decide +kernel
theorem dX0_pushOnce_32 : decode cX0_pushOnce 32 = .ok (.getfield 13, 3) := by decide +kernel
theorem dX0_pushOnce_35 : decode cX0_pushOnce 35 = .ok (.iload 4, 2) := by decide +kernel
theorem dX0_pushOnce_37 : decode cX0_pushOnce 37 = .ok (.iaload, 1) := by decide +kernel
theorem dX0_pushOnce_38 : decode cX0_pushOnce 38 = .ok (.iaload, 1) := by decide +kernel
theorem dX0_pushOnce_39 : decode cX0_pushOnce 39 = .ok (.aload_n 0, 1) := by decide +kernel
theorem dX0_pushOnce_40 : decode cX0_pushOnce 40 = .ok (.getfield 16, 3) := by decide +kernel
theorem dX0_pushOnce_43 : decode cX0_pushOnce 43 = .ok (.iload 4, 2) := by decide +kernel
theorem dX0_pushOnce_45 : decode cX0_pushOnce 45 = .ok (.iaload, 1) := by decide +kernel
theorem dX0_pushOnce_46 : decode cX0_pushOnce 46 = .ok (.isub, 1) := by decide +kernel
theorem dX0_pushOnce_47 : decode cX0_pushOnce 47 = .ok (.istore 5, 2) := by decide +kernel
theorem dX0_pushOnce_49 : decode cX0_pushOnce 49 = .ok (.aload_n 1, 1) := by decide +kernel
theorem dX0_pushOnce_50 : decode cX0_pushOnce 50 = .ok (.aload_n 0, 1) := by decide +kernel
theorem dX0_pushOnce_51 : decode cX0_pushOnce 51 = .ok (.getfield 9, 3) := by decide +kernel
theorem dX0_pushOnce_54 : decode cX0_pushOnce 54 = .ok (.iload 4, 2) := by decide +kernel
theorem dX0_pushOnce_56 : decode cX0_pushOnce 56 = .ok (.iaload, 1) := by decide +kernel
theorem dX0_pushOnce_57 : decode cX0_pushOnce 57 = .ok (.iaload, 1) := by decide +kernel
theorem dX0_pushOnce_58 : decode cX0_pushOnce 58 = .ok (.iload 5, 2) := by decide +kernel
theorem dX0_pushOnce_60 : decode cX0_pushOnce 60 = .ok (.if_icmp .ge 16, 3) := by decide +kernel
theorem dX0_pushOnce_63 : decode cX0_pushOnce 63 = .ok (.aload_n 1, 1) := by decide +kernel
theorem dX0_pushOnce_64 : decode cX0_pushOnce 64 = .ok (.aload_n 0, 1) := by decide +kernel
theorem dX0_pushOnce_65 : decode cX0_pushOnce 65 = .ok (.getfield 9, 3) := by decide +kernel
theorem dX0_pushOnce_68 : decode cX0_pushOnce 68 = .ok (.iload 4, 2) := by decide +kernel
theorem dX0_pushOnce_70 : decode cX0_pushOnce 70 = .ok (.iaload, 1) := by decide +kernel
theorem dX0_pushOnce_71 : decode cX0_pushOnce 71 = .ok (.iload 5, 2) := by decide +kernel
theorem dX0_pushOnce_73 : decode cX0_pushOnce 73 = .ok (.iastore, 1) := by decide +kernel
theorem dX0_pushOnce_74 : decode cX0_pushOnce 74 = .ok (.iconst 1, 1) := by decide +kernel
theorem dX0_pushOnce_75 : decode cX0_pushOnce 75 = .ok (.istore_n 3, 1) := by decide +kernel
theorem dX0_pushOnce_76 : decode cX0_pushOnce 76 = .ok (.iinc 4 1, 3) := by decide +kernel
theorem dX0_pushOnce_79 : decode cX0_pushOnce 79 = .ok (.goto (-74), 3) := by decide +kernel
theorem dX0_pushOnce_82 : decode cX0_pushOnce 82 = .ok (.iload_n 3, 1) := by decide +kernel
theorem dX0_pushOnce_83 : decode cX0_pushOnce 83 = .ok (.ireturn, 1) := by decide +kernel
theorem dX0_lastOf_0 : decode cX0_lastOf 0 = .ok (.iconst 0, 1) := by decide +kernel
theorem dX0_lastOf_1 : decode cX0_lastOf 1 = .ok (.istore_n 2, 1) := by decide +kernel
theorem dX0_lastOf_2 : decode cX0_lastOf 2 = .ok (.iconst 0, 1) := by decide +kernel
theorem dX0_lastOf_3 : decode cX0_lastOf 3 = .ok (.istore_n 3, 1) := by decide +kernel
theorem dX0_lastOf_4 : decode cX0_lastOf 4 = .ok (.iload_n 3, 1) := by decide +kernel
theorem dX0_lastOf_5 : decode cX0_lastOf 5 = .ok (.aload_n 0, 1) := by decide +kernel
theorem dX0_lastOf_6 : decode cX0_lastOf 6 = .ok (.getfield 41, 3) := by decide +kernel
theorem dX0_lastOf_9 : decode cX0_lastOf 9 = .ok (.if_icmp .ge 17, 3) := by decide +kernel
theorem dX0_lastOf_12 : decode cX0_lastOf 12 = .ok (.iload_n 2, 1) := by decide +kernel
theorem dX0_lastOf_13 : decode cX0_lastOf 13 = .ok (.aload_n 1, 1) := by decide +kernel
theorem dX0_lastOf_14 : decode cX0_lastOf 14 = .ok (.iload_n 3, 1) := by decide +kernel
theorem dX0_lastOf_15 : decode cX0_lastOf 15 = .ok (.iaload, 1) := by decide +kernel
theorem dX0_lastOf_16 : decode cX0_lastOf 16 = .ok (.invokestatic 180, 3) := by decide +kernel
theorem dX0_lastOf_19 : decode cX0_lastOf 19 = .ok (.istore_n 2, 1) := by decide +kernel
theorem dX0_lastOf_20 : decode cX0_lastOf 20 = .ok (.iinc 3 1, 3) := by decide +kernel
theorem dX0_lastOf_23 : decode cX0_lastOf 23 = .ok (.goto (-19), 3) := by decide +kernel
theorem dX0_lastOf_26 : decode cX0_lastOf 26 = .ok (.iload_n 2, 1) := by decide +kernel
theorem dX0_lastOf_27 : decode cX0_lastOf 27 = .ok (.ireturn, 1) := by decide +kernel
theorem dX0_tiedRopes_0 : decode cX0_tiedRopes 0 = .ok (.iconst 0, 1) := by decide +kernel
theorem dX0_tiedRopes_1 : decode cX0_tiedRopes 1 = .ok (.istore_n 1, 1) := by decide +kernel
theorem dX0_tiedRopes_2 : decode cX0_tiedRopes 2 = .ok (.iconst 0, 1) := by decide +kernel
theorem dX0_tiedRopes_3 : decode cX0_tiedRopes 3 = .ok (.istore_n 2, 1) := by decide +kernel
theorem dX0_tiedRopes_4 : decode cX0_tiedRopes 4 = .ok (.iload_n 2, 1) := by decide +kernel
theorem dX0_tiedRopes_5 : decode cX0_tiedRopes 5 = .ok (.aload_n 0, 1) := by decide +kernel
theorem dX0_tiedRopes_6 : decode cX0_tiedRopes 6 = .ok (.getfield 63, 3) := by decide +kernel
theorem dX0_tiedRopes_9 : decode cX0_tiedRopes 9 = .ok (.if_icmp .ge 21, 3) := by decide +kernel
theorem dX0_tiedRopes_12 : decode cX0_tiedRopes 12 = .ok (.aload_n 0, 1) := by decide +kernel
theorem dX0_tiedRopes_13 : decode cX0_tiedRopes 13 = .ok (.getfield 19, 3) := by decide +kernel
theorem dX0_tiedRopes_16 : decode cX0_tiedRopes 16 = .ok (.iload_n 2, 1) := by decide +kernel
theorem dX0_tiedRopes_17 : decode cX0_tiedRopes 17 = .ok (.baload, 1) := by decide +kernel
theorem dX0_tiedRopes_18 : decode cX0_tiedRopes 18 = .ok (.ifCond .eq 6, 3) := by decide +kernel
theorem dX0_tiedRopes_21 : decode cX0_tiedRopes 21 = .ok (.iinc 1 1, 3) := by decide +kernel
theorem dX0_tiedRopes_24 : decode cX0_tiedRopes 24 = .ok (.iinc 2 1, 3) := by decide +kernel
theorem dX0_tiedRopes_27 : decode cX0_tiedRopes 27 = .ok (.goto (-23), 3) := by decide +kernel
theorem dX0_tiedRopes_30 : decode cX0_tiedRopes 30 = .ok (.iload_n 1, 1) := by decide +kernel
theorem dX0_tiedRopes_31 : decode cX0_tiedRopes 31 = .ok (.ireturn, 1) := by decide +kernel
theorem dX0_tiedEndsAt_0 : decode cX0_tiedEndsAt 0 = .ok (.iconst 0, 1) := by decide +kernel
theorem dX0_tiedEndsAt_1 : decode cX0_tiedEndsAt 1 = .ok (.istore_n 3, 1) := by decide +kernel
theorem dX0_tiedEndsAt_2 : decode cX0_tiedEndsAt 2 = .ok (.iconst 0, 1) := by decide +kernel
theorem dX0_tiedEndsAt_3 : decode cX0_tiedEndsAt 3 = .ok (.istore 4, 2) := by decide +kernel
theorem dX0_tiedEndsAt_5 : decode cX0_tiedEndsAt 5 = .ok (.iload 4, 2) := by decide +kernel
theorem dX0_tiedEndsAt_7 : decode cX0_tiedEndsAt 7 = .ok (.aload_n 0, 1) := by decide +kernel
theorem dX0_tiedEndsAt_8 : decode cX0_tiedEndsAt 8 = .ok (.getfield 63, 3) := by decide +kernel
theorem dX0_tiedEndsAt_11 : decode cX0_tiedEndsAt 11 = .ok (.if_icmp .ge 30, 3) := by decide +kernel
theorem dX0_tiedEndsAt_14 : decode cX0_tiedEndsAt 14 = .ok (.aload_n 0, 1) := by decide +kernel
theorem dX0_tiedEndsAt_15 : decode cX0_tiedEndsAt 15 = .ok (.getfield 19, 3) := by decide +kernel
theorem dX0_tiedEndsAt_18 : decode cX0_tiedEndsAt 18 = .ok (.iload 4, 2) := by decide +kernel
theorem dX0_tiedEndsAt_20 : decode cX0_tiedEndsAt 20 = .ok (.baload, 1) := by decide +kernel
theorem dX0_tiedEndsAt_21 : decode cX0_tiedEndsAt 21 = .ok (.ifCond .eq 14, 3) := by decide +kernel
theorem dX0_tiedEndsAt_24 : decode cX0_tiedEndsAt 24 = .ok (.aload_n 2, 1) := by decide +kernel
theorem dX0_tiedEndsAt_25 : decode cX0_tiedEndsAt 25 = .ok (.iload 4, 2) := by decide +kernel
theorem dX0_tiedEndsAt_27 : decode cX0_tiedEndsAt 27 = .ok (.iaload, 1) := by decide +kernel
theorem dX0_tiedEndsAt_28 : decode cX0_tiedEndsAt 28 = .ok (.iload_n 1, 1) := by decide +kernel
theorem dX0_tiedEndsAt_29 : decode cX0_tiedEndsAt 29 = .ok (.if_icmp .ne 6, 3) := by decide +kernel
theorem dX0_tiedEndsAt_32 : decode cX0_tiedEndsAt 32 = .ok (.iinc 3 1, 3) := by decide +kernel
theorem dX0_tiedEndsAt_35 : decode cX0_tiedEndsAt 35 = .ok (.iinc 4 1, 3) := by decide +kernel
theorem dX0_tiedEndsAt_38 : decode cX0_tiedEndsAt 38 = .ok (.goto (-33), 3) := by decide +kernel
theorem dX0_tiedEndsAt_41 : decode cX0_tiedEndsAt 41 = .ok (.iload_n 3, 1) := by decide +kernel
theorem dX0_tiedEndsAt_42 : decode cX0_tiedEndsAt 42 = .ok (.ireturn, 1) := by decide +kernel
set_option maxRecDepth 20000 in
theorem ggX0_isTight_X0_isPossible : GoodIn wsX0_isTight wsX0_isPossible := goodIn_r _ [10, 11, 12, 13, 14, 15, 16, 17, 18, 19, 20, 21, 22, 23] (by decide +kernel) (by decide +kernel)
set_option maxRecDepth 20000 in
theorem gX0_isTight_X0_isPossible : GoodIn wsX0_isTight (wsV RX0 71 RX0 yX0_isPossible wsX0_isPossible) := goodIn_app (goodIn_of _ (by decide +kernel)) ggX0_isTight_X0_isPossible
theorem dX0_isTight_0 : decode cX0_isTight 0 = .ok (.aload_n 0, 1) := by decide +kernel
theorem dX0_isTight_1 : decode cX0_isTight 1 = .ok (.invokevirtual 71, 3) := by decide +kernel
theorem dX0_isTight_4 : decode cX0_isTight 4 = .ok (.ifCond .eq 48, 3) := by decide +kernel
theorem dX0_isTight_7 : decode cX0_isTight 7 = .ok (.aload_n 0, 1) := by decide +kernel
theorem dX0_isTight_8 : decode cX0_isTight 8 = .ok (.getfield 19, 3) := by decide +kernel
theorem dX0_isTight_11 : decode cX0_isTight 11 = .ok (.iload_n 1, 1) := by decide +kernel
theorem dX0_isTight_12 : decode cX0_isTight 12 = .ok (.baload, 1) := by decide +kernel
theorem dX0_isTight_13 : decode cX0_isTight 13 = .ok (.ifCond .eq 39, 3) := by decide +kernel
theorem dX0_isTight_16 : decode cX0_isTight 16 = .ok (.aload_n 0, 1) := by decide +kernel
theorem dX0_isTight_17 : decode cX0_isTight 17 = .ok (.getfield 23, 3) := by decide +kernel
theorem dX0_isTight_20 : decode cX0_isTight 20 = .ok (.aload_n 0, 1) := by decide +kernel
theorem dX0_isTight_21 : decode cX0_isTight 21 = .ok (.getfield 13, 3) := by decide +kernel
theorem dX0_isTight_24 : decode cX0_isTight 24 = .ok (.iload_n 1, 1) := by decide +kernel
theorem dX0_isTight_25 : decode cX0_isTight 25 = .ok (.iaload, 1) := by decide +kernel
theorem dX0_isTight_26 : decode cX0_isTight 26 = .ok (.iaload, 1) := by decide +kernel
theorem dX0_isTight_27 : decode cX0_isTight 27 = .ok (.aload_n 0, 1) := by decide +kernel
theorem dX0_isTight_28 : decode cX0_isTight 28 = .ok (.getfield 23, 3) := by decide +kernel
theorem dX0_isTight_31 : decode cX0_isTight 31 = .ok (.aload_n 0, 1) := by decide +kernel
theorem dX0_isTight_32 : decode cX0_isTight 32 = .ok (.getfield 9, 3) := by decide +kernel
theorem dX0_isTight_35 : decode cX0_isTight 35 = .ok (.iload_n 1, 1) := by decide +kernel
theorem dX0_isTight_36 : decode cX0_isTight 36 = .ok (.iaload, 1) := by decide +kernel
theorem dX0_isTight_37 : decode cX0_isTight 37 = .ok (.iaload, 1) := by decide +kernel
theorem dX0_isTight_38 : decode cX0_isTight 38 = .ok (.aload_n 0, 1) := by decide +kernel
theorem dX0_isTight_39 : decode cX0_isTight 39 = .ok (.getfield 16, 3) := by decide +kernel
theorem dX0_isTight_42 : decode cX0_isTight 42 = .ok (.iload_n 1, 1) := by decide +kernel
theorem dX0_isTight_43 : decode cX0_isTight 43 = .ok (.iaload, 1) := by decide +kernel
theorem dX0_isTight_44 : decode cX0_isTight 44 = .ok (.iadd, 1) := by decide +kernel
theorem dX0_isTight_45 : decode cX0_isTight 45 = .ok (.if_icmp .ne 7, 3) := by decide +kernel
theorem dX0_isTight_48 : decode cX0_isTight 48 = .ok (.iconst 1, 1) := by decide +kernel
theorem dX0_isTight_49 : decode cX0_isTight 49 = .ok (.goto 4, 3) := by decide +kernel
theorem dX0_isTight_52 : decode cX0_isTight 52 = .ok (.iconst 0, 1) := by decide +kernel
theorem dX0_isTight_53 : decode cX0_isTight 53 = .ok (.ireturn, 1) := by decide +kernel
set_option maxRecDepth 20000 in
theorem ggX0_tightRopes_X0_isTight : GoodIn wsX0_tightRopes wsX0_isTight := goodIn_r _ [6, 7, 8, 9, 10, 11, 12, 13, 14, 5, 15, 16, 17, 18, 19, 20, 21, 22, 23, 24, 25, 26, 27, 28] (by decide +kernel) (by decide +kernel)
set_option maxRecDepth 20000 in
theorem gX0_tightRopes_X0_isTight : GoodIn wsX0_tightRopes (wsV RX0 82 RX0 yX0_isTight wsX0_isTight) := goodIn_app (goodIn_of _ (by decide +kernel)) ggX0_tightRopes_X0_isTight
theorem dX0_tightRopes_0 : decode cX0_tightRopes 0 = .ok (.iconst 0, 1) := by decide +kernel
theorem dX0_tightRopes_1 : decode cX0_tightRopes 1 = .ok (.istore_n 1, 1) := by decide +kernel
theorem dX0_tightRopes_2 : decode cX0_tightRopes 2 = .ok (.iconst 0, 1) := by decide +kernel
theorem dX0_tightRopes_3 : decode cX0_tightRopes 3 = .ok (.istore_n 2, 1) := by decide +kernel
theorem dX0_tightRopes_4 : decode cX0_tightRopes 4 = .ok (.iload_n 2, 1) := by decide +kernel
theorem dX0_tightRopes_5 : decode cX0_tightRopes 5 = .ok (.aload_n 0, 1) := by decide +kernel
theorem dX0_tightRopes_6 : decode cX0_tightRopes 6 = .ok (.getfield 63, 3) := by decide +kernel
theorem dX0_tightRopes_9 : decode cX0_tightRopes 9 = .ok (.if_icmp .ge 20, 3) := by decide +kernel
theorem dX0_tightRopes_12 : decode cX0_tightRopes 12 = .ok (.aload_n 0, 1) := by decide +kernel
theorem dX0_tightRopes_13 : decode cX0_tightRopes 13 = .ok (.iload_n 2, 1) := by decide +kernel
theorem dX0_tightRopes_14 : decode cX0_tightRopes 14 = .ok (.invokevirtual 82, 3) := by decide +kernel
theorem dX0_tightRopes_17 : decode cX0_tightRopes 17 = .ok (.ifCond .eq 6, 3) := by decide +kernel
theorem dX0_tightRopes_20 : decode cX0_tightRopes 20 = .ok (.iinc 1 1, 3) := by decide +kernel
theorem dX0_tightRopes_23 : decode cX0_tightRopes 23 = .ok (.iinc 2 1, 3) := by decide +kernel
theorem dX0_tightRopes_26 : decode cX0_tightRopes 26 = .ok (.goto (-22), 3) := by decide +kernel
theorem dX0_tightRopes_29 : decode cX0_tightRopes 29 = .ok (.iload_n 1, 1) := by decide +kernel
theorem dX0_tightRopes_30 : decode cX0_tightRopes 30 = .ok (.ireturn, 1) := by decide +kernel
set_option maxRecDepth 20000 in
theorem ggX0_tightenOne_X0_leastLength : GoodIn wsX0_tightenOne wsX0_leastLength := goodIn_r _ [8, 9, 10, 11, 12, 13, 14, 15, 16, 7, 17, 18, 59, 60, 61, 62, 63, 64, 65, 66, 67, 68, 69, 70] (by decide +kernel) (by decide +kernel)
set_option maxRecDepth 20000 in
theorem gX0_tightenOne_X0_leastLength : GoodIn wsX0_tightenOne (wsV RX0 129 RX0 yX0_leastLength wsX0_leastLength) := goodIn_app (goodIn_of _ (by decide +kernel)) ggX0_tightenOne_X0_leastLength
set_option maxRecDepth 20000 in
theorem ggX0_tightenOne_X0_settle : GoodIn wsX0_tightenOne wsX0_settle := goodIn_r _ [22, 23, 24, 25, 26, 27, 7, 28, 29, 30, 31, 32, 33, 34, 35, 3, 1, 2, 36, 37, 38, 39, 40, 41, 42, 43, 9, 44, 45, 46, 47, 18, 48, 49, 50, 51, 52, 53, 12, 54, 14, 15, 16, 17, 55, 56, 57, 58, 59, 60, 61, 62, 63, 64, 65, 66, 67, 68, 69, 70] (by decide +kernel) (by decide +kernel)
set_option maxRecDepth 20000 in
theorem gX0_tightenOne_X0_settle : GoodIn wsX0_tightenOne (wsV RX0 38 RX0 yX0_settle wsX0_settle) := goodIn_app (goodIn_of _ (by decide +kernel)) ggX0_tightenOne_X0_settle
theorem dX0_tightenOne_0 : decode cX0_tightenOne 0 = .ok (.aload_n 0, 1) := by decide +kernel
theorem dX0_tightenOne_1 : decode cX0_tightenOne 1 = .ok (.getfield 16, 3) := by decide +kernel
theorem dX0_tightenOne_4 : decode cX0_tightenOne 4 = .ok (.iload_n 1, 1) := by decide +kernel
theorem dX0_tightenOne_5 : decode cX0_tightenOne 5 = .ok (.iaload, 1) := by decide +kernel
theorem dX0_tightenOne_6 : decode cX0_tightenOne 6 = .ok (.aload_n 0, 1) := by decide +kernel
theorem dX0_tightenOne_7 : decode cX0_tightenOne 7 = .ok (.aload_n 0, 1) := by decide +kernel
theorem dX0_tightenOne_8 : decode cX0_tightenOne 8 = .ok (.getfield 9, 3) := by decide +kernel
theorem dX0_tightenOne_11 : decode cX0_tightenOne 11 = .ok (.iload_n 1, 1) := by decide +kernel
theorem dX0_tightenOne_12 : decode cX0_tightenOne 12 = .ok (.iaload, 1) := by decide +kernel
theorem dX0_tightenOne_13 : decode cX0_tightenOne 13 = .ok (.aload_n 0, 1) := by decide +kernel
theorem dX0_tightenOne_14 : decode cX0_tightenOne 14 = .ok (.getfield 13, 3) := by decide +kernel
theorem dX0_tightenOne_17 : decode cX0_tightenOne 17 = .ok (.iload_n 1, 1) := by decide +kernel
theorem dX0_tightenOne_18 : decode cX0_tightenOne 18 = .ok (.iaload, 1) := by decide +kernel
theorem dX0_tightenOne_19 : decode cX0_tightenOne 19 = .ok (.invokevirtual 129, 3) := by decide +kernel
theorem dX0_tightenOne_22 : decode cX0_tightenOne 22 = .ok (.isub, 1) := by decide +kernel
theorem dX0_tightenOne_23 : decode cX0_tightenOne 23 = .ok (.istore_n 2, 1) := by decide +kernel
theorem dX0_tightenOne_24 : decode cX0_tightenOne 24 = .ok (.iload_n 2, 1) := by decide +kernel
theorem dX0_tightenOne_25 : decode cX0_tightenOne 25 = .ok (.ifCond .le 17, 3) := by decide +kernel
theorem dX0_tightenOne_28 : decode cX0_tightenOne 28 = .ok (.aload_n 0, 1) := by decide +kernel
theorem dX0_tightenOne_29 : decode cX0_tightenOne 29 = .ok (.getfield 16, 3) := by decide +kernel
theorem dX0_tightenOne_32 : decode cX0_tightenOne 32 = .ok (.iload_n 1, 1) := by decide +kernel
theorem dX0_tightenOne_33 : decode cX0_tightenOne 33 = .ok (.dup2, 1) := by decide +kernel
theorem dX0_tightenOne_34 : decode cX0_tightenOne 34 = .ok (.iaload, 1) := by decide +kernel
theorem dX0_tightenOne_35 : decode cX0_tightenOne 35 = .ok (.iload_n 2, 1) := by decide +kernel
theorem dX0_tightenOne_36 : decode cX0_tightenOne 36 = .ok (.isub, 1) := by decide +kernel
theorem dX0_tightenOne_37 : decode cX0_tightenOne 37 = .ok (.iastore, 1) := by decide +kernel
theorem dX0_tightenOne_38 : decode cX0_tightenOne 38 = .ok (.aload_n 0, 1) := by decide +kernel
theorem dX0_tightenOne_39 : decode cX0_tightenOne 39 = .ok (.invokevirtual 38, 3) := by decide +kernel
theorem dX0_tightenOne_42 : decode cX0_tightenOne 42 = .ok (.iload_n 2, 1) := by decide +kernel
theorem dX0_tightenOne_43 : decode cX0_tightenOne 43 = .ok (.ireturn, 1) := by decide +kernel
theorem dX0_boundFrom_0 : decode cX0_boundFrom 0 = .ok (.aload_n 0, 1) := by decide +kernel
theorem dX0_boundFrom_1 : decode cX0_boundFrom 1 = .ok (.getfield 26, 3) := by decide +kernel
theorem dX0_boundFrom_4 : decode cX0_boundFrom 4 = .ok (.iload_n 1, 1) := by decide +kernel
theorem dX0_boundFrom_5 : decode cX0_boundFrom 5 = .ok (.bipush 12, 2) := by decide +kernel
theorem dX0_boundFrom_7 : decode cX0_boundFrom 7 = .ok (.imul, 1) := by decide +kernel
theorem dX0_boundFrom_8 : decode cX0_boundFrom 8 = .ok (.iload_n 2, 1) := by decide +kernel
theorem dX0_boundFrom_9 : decode cX0_boundFrom 9 = .ok (.iadd, 1) := by decide +kernel
theorem dX0_boundFrom_10 : decode cX0_boundFrom 10 = .ok (.iaload, 1) := by decide +kernel
theorem dX0_boundFrom_11 : decode cX0_boundFrom 11 = .ok (.ireturn, 1) := by decide +kernel
theorem dX0_shortenBound_0 : decode cX0_shortenBound 0 = .ok (.iload_n 1, 1) := by decide +kernel
theorem dX0_shortenBound_1 : decode cX0_shortenBound 1 = .ok (.bipush 12, 2) := by decide +kernel
theorem dX0_shortenBound_3 : decode cX0_shortenBound 3 = .ok (.imul, 1) := by decide +kernel
theorem dX0_shortenBound_4 : decode cX0_shortenBound 4 = .ok (.iload_n 2, 1) := by decide +kernel
theorem dX0_shortenBound_5 : decode cX0_shortenBound 5 = .ok (.iadd, 1) := by decide +kernel
theorem dX0_shortenBound_6 : decode cX0_shortenBound 6 = .ok (.istore 4, 2) := by decide +kernel
theorem dX0_shortenBound_8 : decode cX0_shortenBound 8 = .ok (.aload_n 0, 1) := by decide +kernel
theorem dX0_shortenBound_9 : decode cX0_shortenBound 9 = .ok (.getfield 26, 3) := by decide +kernel
theorem dX0_shortenBound_12 : decode cX0_shortenBound 12 = .ok (.iload 4, 2) := by decide +kernel
theorem dX0_shortenBound_14 : decode cX0_shortenBound 14 = .ok (.aload_n 0, 1) := by decide +kernel
theorem dX0_shortenBound_15 : decode cX0_shortenBound 15 = .ok (.getfield 26, 3) := by decide +kernel
theorem dX0_shortenBound_18 : decode cX0_shortenBound 18 = .ok (.iload 4, 2) := by decide +kernel
theorem dX0_shortenBound_20 : decode cX0_shortenBound 20 = .ok (.iaload, 1) := by decide +kernel
theorem dX0_shortenBound_21 : decode cX0_shortenBound 21 = .ok (.iload_n 3, 1) := by decide +kernel
theorem dX0_shortenBound_22 : decode cX0_shortenBound 22 = .ok (.invokestatic 122, 3) := by decide +kernel
theorem dX0_shortenBound_25 : decode cX0_shortenBound 25 = .ok (.iastore, 1) := by decide +kernel
theorem dX0_shortenBound_26 : decode cX0_shortenBound 26 = .ok (.return_, 1) := by decide +kernel
set_option maxRecDepth 20000 in
theorem ggX0_findBounds_X0_startBounds : GoodIn wsX0_findBounds wsX0_startBounds := goodIn_r _ [7, 1, 8, 2, 9, 10, 11, 12, 13, 14, 15, 16, 6, 17, 18, 19, 20, 21, 30, 31, 32, 33, 34, 35, 36, 37, 38, 39, 40, 41] (by decide +kernel) (by decide +kernel)
set_option maxRecDepth 20000 in
theorem gX0_findBounds_X0_startBounds : GoodIn wsX0_findBounds (wsV RX0 183 RX0 yX0_startBounds wsX0_startBounds) := goodIn_app (goodIn_of _ (by decide +kernel)) ggX0_findBounds_X0_startBounds
set_option maxRecDepth 20000 in
theorem ggX0_findBounds_X0_boundFrom : GoodIn wsX0_findBounds wsX0_boundFrom := goodIn_r _ [25, 8, 30, 31, 32, 33, 34, 35, 36, 37, 38, 39, 40, 41] (by decide +kernel) (by decide +kernel)
set_option maxRecDepth 20000 in
theorem gX0_findBounds_X0_boundFrom : GoodIn wsX0_findBounds (wsV RX0 117 RX0 yX0_boundFrom wsX0_boundFrom) := goodIn_app (goodIn_of _ (by decide +kernel)) ggX0_findBounds_X0_boundFrom
set_option maxRecDepth 20000 in
theorem ggX0_findBounds_X0_goOnOver : GoodIn wsX0_findBounds wsX0_goOnOver := goodIn_r _ [29, 1, 2, 22, 23, 24, 6, 25, 8, 14, 15, 16, 17, 18, 19, 20, 21, 30, 31, 32, 33, 34, 35, 36, 37, 38, 39, 40, 41] (by decide +kernel) (by decide +kernel)
set_option maxRecDepth 20000 in
theorem gX0_findBounds_X0_goOnOver : GoodIn wsX0_findBounds (wsV RX0 186 RX0 yX0_goOnOver wsX0_goOnOver) := goodIn_app (goodIn_of _ (by decide +kernel)) ggX0_findBounds_X0_goOnOver
theorem dX0_findBounds_0 : decode cX0_findBounds 0 = .ok (.aload_n 0, 1) := by decide +kernel
theorem dX0_findBounds_1 : decode cX0_findBounds 1 = .ok (.invokevirtual 183, 3) := by decide +kernel
theorem dX0_findBounds_4 : decode cX0_findBounds 4 = .ok (.iconst 0, 1) := by decide +kernel
theorem dX0_findBounds_5 : decode cX0_findBounds 5 = .ok (.istore_n 1, 1) := by decide +kernel
theorem dX0_findBounds_6 : decode cX0_findBounds 6 = .ok (.iload_n 1, 1) := by decide +kernel
theorem dX0_findBounds_7 : decode cX0_findBounds 7 = .ok (.aload_n 0, 1) := by decide +kernel
theorem dX0_findBounds_8 : decode cX0_findBounds 8 = .ok (.getfield 41, 3) := by decide +kernel
theorem dX0_findBounds_11 : decode cX0_findBounds 11 = .ok (.if_icmp .ge 42, 3) := by decide +kernel
theorem dX0_findBounds_14 : decode cX0_findBounds 14 = .ok (.iconst 0, 1) := by decide +kernel
theorem dX0_findBounds_15 : decode cX0_findBounds 15 = .ok (.istore_n 2, 1) := by decide +kernel
theorem dX0_findBounds_16 : decode cX0_findBounds 16 = .ok (.iload_n 2, 1) := by decide +kernel
theorem dX0_findBounds_17 : decode cX0_findBounds 17 = .ok (.aload_n 0, 1) := by decide +kernel
theorem dX0_findBounds_18 : decode cX0_findBounds 18 = .ok (.getfield 41, 3) := by decide +kernel
theorem dX0_findBounds_21 : decode cX0_findBounds 21 = .ok (.if_icmp .ge 26, 3) := by decide +kernel
theorem dX0_findBounds_24 : decode cX0_findBounds 24 = .ok (.aload_n 0, 1) := by decide +kernel
theorem dX0_findBounds_25 : decode cX0_findBounds 25 = .ok (.iload_n 2, 1) := by decide +kernel
theorem dX0_findBounds_26 : decode cX0_findBounds 26 = .ok (.iload_n 1, 1) := by decide +kernel
theorem dX0_findBounds_27 : decode cX0_findBounds 27 = .ok (.invokevirtual 117, 3) := by decide +kernel
theorem dX0_findBounds_30 : decode cX0_findBounds 30 = .ok (.ldc 121, 2) := by decide +kernel
theorem dX0_findBounds_32 : decode cX0_findBounds 32 = .ok (.if_icmp .eq 9, 3) := by decide +kernel
theorem dX0_findBounds_35 : decode cX0_findBounds 35 = .ok (.aload_n 0, 1) := by decide +kernel
theorem dX0_findBounds_36 : decode cX0_findBounds 36 = .ok (.iload_n 2, 1) := by decide +kernel
theorem dX0_findBounds_37 : decode cX0_findBounds 37 = .ok (.iload_n 1, 1) := by decide +kernel
theorem dX0_findBounds_38 : decode cX0_findBounds 38 = .ok (.invokevirtual 186, 3) := by decide +kernel
theorem dX0_findBounds_41 : decode cX0_findBounds 41 = .ok (.iinc 2 1, 3) := by decide +kernel
theorem dX0_findBounds_44 : decode cX0_findBounds 44 = .ok (.goto (-28), 3) := by decide +kernel
theorem dX0_findBounds_47 : decode cX0_findBounds 47 = .ok (.iinc 1 1, 3) := by decide +kernel
theorem dX0_findBounds_50 : decode cX0_findBounds 50 = .ok (.goto (-44), 3) := by decide +kernel
theorem dX0_findBounds_53 : decode cX0_findBounds 53 = .ok (.return_, 1) := by decide +kernel
set_option maxRecDepth 20000 in
theorem ggX0_startBounds_X0_shortenBound : GoodIn wsX0_startBounds wsX0_shortenBound := goodIn_r _ [13, 2, 14, 15, 16, 17, 18, 19, 20, 21, 22, 23, 24, 25, 26, 27, 28, 29] (by decide +kernel) (by decide +kernel)
set_option maxRecDepth 20000 in
theorem gX0_startBounds_X0_shortenBound : GoodIn wsX0_startBounds (wsV RX0 189 RX0 yX0_shortenBound wsX0_shortenBound) := goodIn_app (goodIn_of _ (by decide +kernel)) ggX0_startBounds_X0_shortenBound
theorem dX0_startBounds_0 : decode cX0_startBounds 0 = .ok (.iconst 0, 1) := by decide +kernel
theorem dX0_startBounds_1 : decode cX0_startBounds 1 = .ok (.istore_n 1, 1) := by decide +kernel
theorem dX0_startBounds_2 : decode cX0_startBounds 2 = .ok (.iload_n 1, 1) := by decide +kernel
theorem dX0_startBounds_3 : decode cX0_startBounds 3 = .ok (.aload_n 0, 1) := by decide +kernel
theorem dX0_startBounds_4 : decode cX0_startBounds 4 = .ok (.getfield 41, 3) := by decide +kernel
theorem dX0_startBounds_7 : decode cX0_startBounds 7 = .ok (.if_icmp .ge 47, 3) := by decide +kernel
theorem dX0_startBounds_10 : decode cX0_startBounds 10 = .ok (.iconst 0, 1) := by decide +kernel
theorem dX0_startBounds_11 : decode cX0_startBounds 11 = .ok (.istore_n 2, 1) := by decide +kernel
theorem dX0_startBounds_12 : decode cX0_startBounds 12 = .ok (.iload_n 2, 1) := by decide +kernel
theorem dX0_startBounds_13 : decode cX0_startBounds 13 = .ok (.aload_n 0, 1) := by decide +kernel
theorem dX0_startBounds_14 : decode cX0_startBounds 14 = .ok (.getfield 41, 3) := by decide +kernel
theorem dX0_startBounds_17 : decode cX0_startBounds 17 = .ok (.if_icmp .ge 31, 3) := by decide +kernel
theorem dX0_startBounds_20 : decode cX0_startBounds 20 = .ok (.aload_n 0, 1) := by decide +kernel
theorem dX0_startBounds_21 : decode cX0_startBounds 21 = .ok (.getfield 26, 3) := by decide +kernel
theorem dX0_startBounds_24 : decode cX0_startBounds 24 = .ok (.iload_n 1, 1) := by decide +kernel
theorem dX0_startBounds_25 : decode cX0_startBounds 25 = .ok (.bipush 12, 2) := by decide +kernel
theorem dX0_startBounds_27 : decode cX0_startBounds 27 = .ok (.imul, 1) := by decide +kernel
theorem dX0_startBounds_28 : decode cX0_startBounds 28 = .ok (.iload_n 2, 1) := by decide +kernel
theorem dX0_startBounds_29 : decode cX0_startBounds 29 = .ok (.iadd, 1) := by decide +kernel
theorem dX0_startBounds_30 : decode cX0_startBounds 30 = .ok (.iload_n 1, 1) := by decide +kernel
theorem dX0_startBounds_31 : decode cX0_startBounds 31 = .ok (.iload_n 2, 1) := by decide +kernel
theorem dX0_startBounds_32 : decode cX0_startBounds 32 = .ok (.if_icmp .ne 7, 3) := by decide +kernel
theorem dX0_startBounds_35 : decode cX0_startBounds 35 = .ok (.iconst 0, 1) := by decide +kernel
theorem dX0_startBounds_36 : decode cX0_startBounds 36 = .ok (.goto 5, 3) := by decide +kernel
theorem dX0_startBounds_39 : decode cX0_startBounds 39 = .ok (.ldc 121, 2) := by decide +kernel
theorem dX0_startBounds_41 : decode cX0_startBounds 41 = .ok (.iastore, 1) := by decide +kernel
theorem dX0_startBounds_42 : decode cX0_startBounds 42 = .ok (.iinc 2 1, 3) := by decide +kernel
theorem dX0_startBounds_45 : decode cX0_startBounds 45 = .ok (.goto (-33), 3) := by decide +kernel
theorem dX0_startBounds_48 : decode cX0_startBounds 48 = .ok (.iinc 1 1, 3) := by decide +kernel
theorem dX0_startBounds_51 : decode cX0_startBounds 51 = .ok (.goto (-49), 3) := by decide +kernel
theorem dX0_startBounds_54 : decode cX0_startBounds 54 = .ok (.iconst 0, 1) := by decide +kernel
theorem dX0_startBounds_55 : decode cX0_startBounds 55 = .ok (.istore_n 1, 1) := by decide +kernel
theorem dX0_startBounds_56 : decode cX0_startBounds 56 = .ok (.iload_n 1, 1) := by decide +kernel
theorem dX0_startBounds_57 : decode cX0_startBounds 57 = .ok (.aload_n 0, 1) := by decide +kernel
theorem dX0_startBounds_58 : decode cX0_startBounds 58 = .ok (.getfield 63, 3) := by decide +kernel
theorem dX0_startBounds_61 : decode cX0_startBounds 61 = .ok (.if_icmp .ge 40, 3) := by decide +kernel
theorem dX0_startBounds_64 : decode cX0_startBounds 64 = .ok (.aload_n 0, 1) := by decide +kernel
theorem dX0_startBounds_65 : decode cX0_startBounds 65 = .ok (.getfield 19, 3) := by decide +kernel
theorem dX0_startBounds_68 : decode cX0_startBounds 68 = .ok (.iload_n 1, 1) := by decide +kernel
theorem dX0_startBounds_69 : decode cX0_startBounds 69 = .ok (.baload, 1) := by decide +kernel
theorem dX0_startBounds_70 : decode cX0_startBounds 70 = .ok (.ifCond .eq 25, 3) := by decide +kernel
theorem dX0_startBounds_73 : decode cX0_startBounds 73 = .ok (.aload_n 0, 1) := by decide +kernel
theorem dX0_startBounds_74 : decode cX0_startBounds 74 = .ok (.aload_n 0, 1) := by decide +kernel
theorem dX0_startBounds_75 : decode cX0_startBounds 75 = .ok (.getfield 9, 3) := by decide +kernel
theorem dX0_startBounds_78 : decode cX0_startBounds 78 = .ok (.iload_n 1, 1) := by decide +kernel
theorem dX0_startBounds_79 : decode cX0_startBounds 79 = .ok (.iaload, 1) := by decide +kernel
theorem dX0_startBounds_80 : decode cX0_startBounds 80 = .ok (.aload_n 0, 1) := by decide +kernel
theorem dX0_startBounds_81 : decode cX0_startBounds 81 = .ok (.getfield 13, 3) := by decide +kernel
theorem dX0_startBounds_84 : decode cX0_startBounds 84 = .ok (.iload_n 1, 1) := by decide +kernel
theorem dX0_startBounds_85 : decode cX0_startBounds 85 = .ok (.iaload, 1) := by decide +kernel
theorem dX0_startBounds_86 : decode cX0_startBounds 86 = .ok (.aload_n 0, 1) := by decide +kernel
theorem dX0_startBounds_87 : decode cX0_startBounds 87 = .ok (.getfield 16, 3) := by decide +kernel
theorem dX0_startBounds_90 : decode cX0_startBounds 90 = .ok (.iload_n 1, 1) := by decide +kernel
theorem dX0_startBounds_91 : decode cX0_startBounds 91 = .ok (.iaload, 1) := by decide +kernel
theorem dX0_startBounds_92 : decode cX0_startBounds 92 = .ok (.invokevirtual 189, 3) := by decide +kernel
theorem dX0_startBounds_95 : decode cX0_startBounds 95 = .ok (.iinc 1 1, 3) := by decide +kernel
theorem dX0_startBounds_98 : decode cX0_startBounds 98 = .ok (.goto (-42), 3) := by decide +kernel
theorem dX0_startBounds_101 : decode cX0_startBounds 101 = .ok (.return_, 1) := by decide +kernel
set_option maxRecDepth 20000 in
theorem ggX0_goOnOver_X0_boundFrom : GoodIn wsX0_goOnOver wsX0_boundFrom := goodIn_r _ [7, 8, 17, 18, 19, 20, 21, 22, 23, 24, 25, 26, 27, 28] (by decide +kernel) (by decide +kernel)
set_option maxRecDepth 20000 in
theorem gX0_goOnOver_X0_boundFrom : GoodIn wsX0_goOnOver (wsV RX0 117 RX0 yX0_boundFrom wsX0_boundFrom) := goodIn_app (goodIn_of _ (by decide +kernel)) ggX0_goOnOver_X0_boundFrom
set_option maxRecDepth 20000 in
theorem ggX0_goOnOver_X0_shortenBound : GoodIn wsX0_goOnOver wsX0_shortenBound := goodIn_r _ [12, 8, 13, 14, 15, 16, 17, 18, 19, 20, 21, 22, 23, 24, 25, 26, 27, 28] (by decide +kernel) (by decide +kernel)
set_option maxRecDepth 20000 in
theorem gX0_goOnOver_X0_shortenBound : GoodIn wsX0_goOnOver (wsV RX0 189 RX0 yX0_shortenBound wsX0_shortenBound) := goodIn_app (goodIn_of _ (by decide +kernel)) ggX0_goOnOver_X0_shortenBound
theorem dX0_goOnOver_0 : decode cX0_goOnOver 0 = .ok (.aload_n 0, 1) := by decide +kernel
theorem dX0_goOnOver_1 : decode cX0_goOnOver 1 = .ok (.iload_n 1, 1) := by decide +kernel
theorem dX0_goOnOver_2 : decode cX0_goOnOver 2 = .ok (.iload_n 2, 1) := by decide +kernel
theorem dX0_goOnOver_3 : decode cX0_goOnOver 3 = .ok (.invokevirtual 117, 3) := by decide +kernel
theorem dX0_goOnOver_6 : decode cX0_goOnOver 6 = .ok (.istore_n 3, 1) := by decide +kernel
theorem dX0_goOnOver_7 : decode cX0_goOnOver 7 = .ok (.iconst 0, 1) := by decide +kernel
theorem dX0_goOnOver_8 : decode cX0_goOnOver 8 = .ok (.istore 4, 2) := by decide +kernel
theorem dX0_goOnOver_10 : decode cX0_goOnOver 10 = .ok (.iload 4, 2) := by decide +kernel
theorem dX0_goOnOver_12 : decode cX0_goOnOver 12 = .ok (.aload_n 0, 1) := by decide +kernel
theorem dX0_goOnOver_13 : decode cX0_goOnOver 13 = .ok (.getfield 41, 3) := by decide +kernel
theorem dX0_goOnOver_16 : decode cX0_goOnOver 16 = .ok (.if_icmp .ge 36, 3) := by decide +kernel
theorem dX0_goOnOver_19 : decode cX0_goOnOver 19 = .ok (.aload_n 0, 1) := by decide +kernel
theorem dX0_goOnOver_20 : decode cX0_goOnOver 20 = .ok (.iload_n 2, 1) := by decide +kernel
theorem dX0_goOnOver_21 : decode cX0_goOnOver 21 = .ok (.iload 4, 2) := by decide +kernel
theorem dX0_goOnOver_23 : decode cX0_goOnOver 23 = .ok (.invokevirtual 117, 3) := by decide +kernel
theorem dX0_goOnOver_26 : decode cX0_goOnOver 26 = .ok (.istore 5, 2) := by decide +kernel
theorem dX0_goOnOver_28 : decode cX0_goOnOver 28 = .ok (.iload 5, 2) := by decide +kernel
theorem dX0_goOnOver_30 : decode cX0_goOnOver 30 = .ok (.ldc 121, 2) := by decide +kernel
theorem dX0_goOnOver_32 : decode cX0_goOnOver 32 = .ok (.if_icmp .eq 14, 3) := by decide +kernel
theorem dX0_goOnOver_35 : decode cX0_goOnOver 35 = .ok (.aload_n 0, 1) := by decide +kernel
theorem dX0_goOnOver_36 : decode cX0_goOnOver 36 = .ok (.iload_n 1, 1) := by decide +kernel
theorem dX0_goOnOver_37 : decode cX0_goOnOver 37 = .ok (.iload 4, 2) := by decide +kernel
theorem dX0_goOnOver_39 : decode cX0_goOnOver 39 = .ok (.iload_n 3, 1) := by decide +kernel
theorem dX0_goOnOver_40 : decode cX0_goOnOver 40 = .ok (.iload 5, 2) := by decide +kernel
theorem dX0_goOnOver_42 : decode cX0_goOnOver 42 = .ok (.iadd, 1) := by decide +kernel
theorem dX0_goOnOver_43 : decode cX0_goOnOver 43 = .ok (.invokevirtual 189, 3) := by decide +kernel
theorem dX0_goOnOver_46 : decode cX0_goOnOver 46 = .ok (.iinc 4 1, 3) := by decide +kernel
theorem dX0_goOnOver_49 : decode cX0_goOnOver 49 = .ok (.goto (-39), 3) := by decide +kernel
theorem dX0_goOnOver_52 : decode cX0_goOnOver 52 = .ok (.return_, 1) := by decide +kernel
set_option maxRecDepth 20000 in
theorem ggX0_leastLength_X0_boundFrom : GoodIn wsX0_leastLength wsX0_boundFrom := goodIn_r _ [10, 11, 12, 13, 14, 15, 16, 17, 18, 19, 20, 21, 22, 23] (by decide +kernel) (by decide +kernel)
set_option maxRecDepth 20000 in
theorem gX0_leastLength_X0_boundFrom : GoodIn wsX0_leastLength (wsV RX0 117 RX0 yX0_boundFrom wsX0_boundFrom) := goodIn_app (goodIn_of _ (by decide +kernel)) ggX0_leastLength_X0_boundFrom
theorem dX0_leastLength_0 : decode cX0_leastLength 0 = .ok (.aload_n 0, 1) := by decide +kernel
theorem dX0_leastLength_1 : decode cX0_leastLength 1 = .ok (.iload_n 2, 1) := by decide +kernel
theorem dX0_leastLength_2 : decode cX0_leastLength 2 = .ok (.iload_n 1, 1) := by decide +kernel
theorem dX0_leastLength_3 : decode cX0_leastLength 3 = .ok (.invokevirtual 117, 3) := by decide +kernel
theorem dX0_leastLength_6 : decode cX0_leastLength 6 = .ok (.istore_n 3, 1) := by decide +kernel
theorem dX0_leastLength_7 : decode cX0_leastLength 7 = .ok (.iload_n 3, 1) := by decide +kernel
theorem dX0_leastLength_8 : decode cX0_leastLength 8 = .ok (.ldc 121, 2) := by decide +kernel
theorem dX0_leastLength_10 : decode cX0_leastLength 10 = .ok (.if_icmp .ne 8, 3) := by decide +kernel
theorem dX0_leastLength_13 : decode cX0_leastLength 13 = .ok (.bipush (-99), 2) := by decide +kernel
theorem dX0_leastLength_15 : decode cX0_leastLength 15 = .ok (.goto 10, 3) := by decide +kernel
theorem dX0_leastLength_18 : decode cX0_leastLength 18 = .ok (.bipush (-99), 2) := by decide +kernel
theorem dX0_leastLength_20 : decode cX0_leastLength 20 = .ok (.iload_n 3, 1) := by decide +kernel
theorem dX0_leastLength_21 : decode cX0_leastLength 21 = .ok (.ineg, 1) := by decide +kernel
theorem dX0_leastLength_22 : decode cX0_leastLength 22 = .ok (.invokestatic 180, 3) := by decide +kernel
theorem dX0_leastLength_25 : decode cX0_leastLength 25 = .ok (.ireturn, 1) := by decide +kernel
set_option maxRecDepth 20000 in
theorem ggX0_shortRingLength_X0_shortRingFrom : GoodIn wsX0_shortRingLength wsX0_shortRingFrom := goodIn_r _ [6, 1, 7, 8, 9, 10, 11, 5, 12, 13, 14, 15, 16, 17, 18, 19, 20, 21, 22, 23, 24, 25, 26, 27, 28, 29, 30, 31, 32, 33, 34] (by decide +kernel) (by decide +kernel)
set_option maxRecDepth 20000 in
theorem gX0_shortRingLength_X0_shortRingFrom : GoodIn wsX0_shortRingLength (wsV RX0 193 RX0 yX0_shortRingFrom wsX0_shortRingFrom) := goodIn_app (goodIn_of _ (by decide +kernel)) ggX0_shortRingLength_X0_shortRingFrom
theorem dX0_shortRingLength_0 : decode cX0_shortRingLength 0 = .ok (.iconst 0, 1) := by decide +kernel
theorem dX0_shortRingLength_1 : decode cX0_shortRingLength 1 = .ok (.istore_n 1, 1) := by decide +kernel
theorem dX0_shortRingLength_2 : decode cX0_shortRingLength 2 = .ok (.iconst 0, 1) := by decide +kernel
theorem dX0_shortRingLength_3 : decode cX0_shortRingLength 3 = .ok (.istore_n 2, 1) := by decide +kernel
theorem dX0_shortRingLength_4 : decode cX0_shortRingLength 4 = .ok (.iload_n 2, 1) := by decide +kernel
theorem dX0_shortRingLength_5 : decode cX0_shortRingLength 5 = .ok (.aload_n 0, 1) := by decide +kernel
theorem dX0_shortRingLength_6 : decode cX0_shortRingLength 6 = .ok (.getfield 41, 3) := by decide +kernel
theorem dX0_shortRingLength_9 : decode cX0_shortRingLength 9 = .ok (.if_icmp .ge 30, 3) := by decide +kernel
theorem dX0_shortRingLength_12 : decode cX0_shortRingLength 12 = .ok (.aload_n 0, 1) := by decide +kernel
theorem dX0_shortRingLength_13 : decode cX0_shortRingLength 13 = .ok (.iload_n 2, 1) := by decide +kernel
theorem dX0_shortRingLength_14 : decode cX0_shortRingLength 14 = .ok (.invokevirtual 193, 3) := by decide +kernel
theorem dX0_shortRingLength_17 : decode cX0_shortRingLength 17 = .ok (.istore_n 3, 1) := by decide +kernel
theorem dX0_shortRingLength_18 : decode cX0_shortRingLength 18 = .ok (.iload_n 3, 1) := by decide +kernel
theorem dX0_shortRingLength_19 : decode cX0_shortRingLength 19 = .ok (.ifCond .eq 14, 3) := by decide +kernel
theorem dX0_shortRingLength_22 : decode cX0_shortRingLength 22 = .ok (.iload_n 1, 1) := by decide +kernel
theorem dX0_shortRingLength_23 : decode cX0_shortRingLength 23 = .ok (.ifCond .eq 8, 3) := by decide +kernel
theorem dX0_shortRingLength_26 : decode cX0_shortRingLength 26 = .ok (.iload_n 3, 1) := by decide +kernel
theorem dX0_shortRingLength_27 : decode cX0_shortRingLength 27 = .ok (.iload_n 1, 1) := by decide +kernel
theorem dX0_shortRingLength_28 : decode cX0_shortRingLength 28 = .ok (.if_icmp .ge 5, 3) := by decide +kernel
theorem dX0_shortRingLength_31 : decode cX0_shortRingLength 31 = .ok (.iload_n 3, 1) := by decide +kernel
theorem dX0_shortRingLength_32 : decode cX0_shortRingLength 32 = .ok (.istore_n 1, 1) := by decide +kernel
theorem dX0_shortRingLength_33 : decode cX0_shortRingLength 33 = .ok (.iinc 2 1, 3) := by decide +kernel
theorem dX0_shortRingLength_36 : decode cX0_shortRingLength 36 = .ok (.goto (-32), 3) := by decide +kernel
theorem dX0_shortRingLength_39 : decode cX0_shortRingLength 39 = .ok (.iload_n 1, 1) := by decide +kernel
theorem dX0_shortRingLength_40 : decode cX0_shortRingLength 40 = .ok (.ireturn, 1) := by decide +kernel
set_option maxRecDepth 20000 in
theorem ggX0_shortRingFrom_X0_goOneRope : GoodIn wsX0_shortRingFrom wsX0_goOneRope := goodIn_r _ [8, 1, 9, 3, 10, 11, 2, 12, 13, 14, 15, 16, 17, 18, 19, 20, 21, 22, 23, 24, 25, 26, 27, 28, 29, 30] (by decide +kernel) (by decide +kernel)
set_option maxRecDepth 20000 in
theorem gX0_shortRingFrom_X0_goOneRope : GoodIn wsX0_shortRingFrom (wsV RX0 196 RX0 yX0_goOneRope wsX0_goOneRope) := goodIn_app (goodIn_of _ (by decide +kernel)) ggX0_shortRingFrom_X0_goOneRope
theorem dX0_shortRingFrom_0 : decode cX0_shortRingFrom 0 = .ok (.iconst 0, 1) := by decide +kernel
theorem dX0_shortRingFrom_1 : decode cX0_shortRingFrom 1 = .ok (.istore_n 2, 1) := by decide +kernel
theorem dX0_shortRingFrom_2 : decode cX0_shortRingFrom 2 = .ok (.iload_n 2, 1) := by decide +kernel
theorem dX0_shortRingFrom_3 : decode cX0_shortRingFrom 3 = .ok (.aload_n 0, 1) := by decide +kernel
theorem dX0_shortRingFrom_4 : decode cX0_shortRingFrom 4 = .ok (.getfield 41, 3) := by decide +kernel
theorem dX0_shortRingFrom_7 : decode cX0_shortRingFrom 7 = .ok (.if_icmp .ge 17, 3) := by decide +kernel
theorem dX0_shortRingFrom_10 : decode cX0_shortRingFrom 10 = .ok (.aload_n 0, 1) := by decide +kernel
theorem dX0_shortRingFrom_11 : decode cX0_shortRingFrom 11 = .ok (.getfield 32, 3) := by decide +kernel
theorem dX0_shortRingFrom_14 : decode cX0_shortRingFrom 14 = .ok (.iload_n 2, 1) := by decide +kernel
theorem dX0_shortRingFrom_15 : decode cX0_shortRingFrom 15 = .ok (.ldc 121, 2) := by decide +kernel
theorem dX0_shortRingFrom_17 : decode cX0_shortRingFrom 17 = .ok (.iastore, 1) := by decide +kernel
theorem dX0_shortRingFrom_18 : decode cX0_shortRingFrom 18 = .ok (.iinc 2 1, 3) := by decide +kernel
theorem dX0_shortRingFrom_21 : decode cX0_shortRingFrom 21 = .ok (.goto (-19), 3) := by decide +kernel
theorem dX0_shortRingFrom_24 : decode cX0_shortRingFrom 24 = .ok (.aload_n 0, 1) := by decide +kernel
theorem dX0_shortRingFrom_25 : decode cX0_shortRingFrom 25 = .ok (.getfield 32, 3) := by decide +kernel
theorem dX0_shortRingFrom_28 : decode cX0_shortRingFrom 28 = .ok (.iload_n 1, 1) := by decide +kernel
theorem dX0_shortRingFrom_29 : decode cX0_shortRingFrom 29 = .ok (.iconst 0, 1) := by decide +kernel
theorem dX0_shortRingFrom_30 : decode cX0_shortRingFrom 30 = .ok (.iastore, 1) := by decide +kernel
theorem dX0_shortRingFrom_31 : decode cX0_shortRingFrom 31 = .ok (.iconst 1, 1) := by decide +kernel
theorem dX0_shortRingFrom_32 : decode cX0_shortRingFrom 32 = .ok (.istore_n 2, 1) := by decide +kernel
theorem dX0_shortRingFrom_33 : decode cX0_shortRingFrom 33 = .ok (.iload_n 2, 1) := by decide +kernel
theorem dX0_shortRingFrom_34 : decode cX0_shortRingFrom 34 = .ok (.aload_n 0, 1) := by decide +kernel
theorem dX0_shortRingFrom_35 : decode cX0_shortRingFrom 35 = .ok (.getfield 41, 3) := by decide +kernel
theorem dX0_shortRingFrom_38 : decode cX0_shortRingFrom 38 = .ok (.if_icmp .gt 24, 3) := by decide +kernel
theorem dX0_shortRingFrom_41 : decode cX0_shortRingFrom 41 = .ok (.aload_n 0, 1) := by decide +kernel
theorem dX0_shortRingFrom_42 : decode cX0_shortRingFrom 42 = .ok (.invokevirtual 196, 3) := by decide +kernel
theorem dX0_shortRingFrom_45 : decode cX0_shortRingFrom 45 = .ok (.aload_n 0, 1) := by decide +kernel
theorem dX0_shortRingFrom_46 : decode cX0_shortRingFrom 46 = .ok (.getfield 32, 3) := by decide +kernel
theorem dX0_shortRingFrom_49 : decode cX0_shortRingFrom 49 = .ok (.iload_n 1, 1) := by decide +kernel
theorem dX0_shortRingFrom_50 : decode cX0_shortRingFrom 50 = .ok (.iaload, 1) := by decide +kernel
theorem dX0_shortRingFrom_51 : decode cX0_shortRingFrom 51 = .ok (.ifCond .ge 5, 3) := by decide +kernel
theorem dX0_shortRingFrom_54 : decode cX0_shortRingFrom 54 = .ok (.iload_n 2, 1) := by decide +kernel
theorem dX0_shortRingFrom_55 : decode cX0_shortRingFrom 55 = .ok (.ireturn, 1) := by decide +kernel
theorem dX0_shortRingFrom_56 : decode cX0_shortRingFrom 56 = .ok (.iinc 2 1, 3) := by decide +kernel
theorem dX0_shortRingFrom_59 : decode cX0_shortRingFrom 59 = .ok (.goto (-26), 3) := by decide +kernel
theorem dX0_shortRingFrom_62 : decode cX0_shortRingFrom 62 = .ok (.iconst 0, 1) := by decide +kernel
theorem dX0_shortRingFrom_63 : decode cX0_shortRingFrom 63 = .ok (.ireturn, 1) := by decide +kernel
theorem dX0_goOneRope_0 : decode cX0_goOneRope 0 = .ok (.iconst 0, 1) := by decide +kernel
theorem dX0_goOneRope_1 : decode cX0_goOneRope 1 = .ok (.istore_n 1, 1) := by decide +kernel
theorem dX0_goOneRope_2 : decode cX0_goOneRope 2 = .ok (.iload_n 1, 1) := by decide +kernel
theorem dX0_goOneRope_3 : decode cX0_goOneRope 3 = .ok (.aload_n 0, 1) := by decide +kernel
theorem dX0_goOneRope_4 : decode cX0_goOneRope 4 = .ok (.getfield 41, 3) := by decide +kernel
theorem dX0_goOneRope_7 : decode cX0_goOneRope 7 = .ok (.if_icmp .ge 17, 3) := by decide +kernel
theorem dX0_goOneRope_10 : decode cX0_goOneRope 10 = .ok (.aload_n 0, 1) := by decide +kernel
theorem dX0_goOneRope_11 : decode cX0_goOneRope 11 = .ok (.getfield 35, 3) := by decide +kernel
theorem dX0_goOneRope_14 : decode cX0_goOneRope 14 = .ok (.iload_n 1, 1) := by decide +kernel
theorem dX0_goOneRope_15 : decode cX0_goOneRope 15 = .ok (.ldc 121, 2) := by decide +kernel
theorem dX0_goOneRope_17 : decode cX0_goOneRope 17 = .ok (.iastore, 1) := by decide +kernel
theorem dX0_goOneRope_18 : decode cX0_goOneRope 18 = .ok (.iinc 1 1, 3) := by decide +kernel
theorem dX0_goOneRope_21 : decode cX0_goOneRope 21 = .ok (.goto (-19), 3) := by decide +kernel
theorem dX0_goOneRope_24 : decode cX0_goOneRope 24 = .ok (.iconst 0, 1) := by decide +kernel
theorem dX0_goOneRope_25 : decode cX0_goOneRope 25 = .ok (.istore_n 1, 1) := by decide +kernel
theorem dX0_goOneRope_26 : decode cX0_goOneRope 26 = .ok (.iload_n 1, 1) := by decide +kernel
theorem dX0_goOneRope_27 : decode cX0_goOneRope 27 = .ok (.aload_n 0, 1) := by decide +kernel
theorem dX0_goOneRope_28 : decode cX0_goOneRope 28 = .ok (.getfield 63, 3) := by decide +kernel
theorem dX0_goOneRope_31 : decode cX0_goOneRope 31 = .ok (.if_icmp .ge 79, 3) := by decide +kernel
theorem dX0_goOneRope_34 : decode cX0_goOneRope 34 = .ok (.aload_n 0, 1) := by decide +kernel
theorem dX0_goOneRope_35 : decode cX0_goOneRope 35 = .ok (.getfield 19, 3) := by decide +kernel
theorem dX0_goOneRope_38 : decode cX0_goOneRope 38 = .ok (.iload_n 1, 1) := by decide +kernel
theorem dX0_goOneRope_39 : decode cX0_goOneRope 39 = .ok (.baload, 1) := by decide +kernel
theorem dX0_goOneRope_40 : decode cX0_goOneRope 40 = .ok (.ifCond .eq 64, 3) := by decide +kernel
theorem dX0_goOneRope_43 : decode cX0_goOneRope 43 = .ok (.aload_n 0, 1) := by decide +kernel
theorem dX0_goOneRope_44 : decode cX0_goOneRope 44 = .ok (.getfield 32, 3) := by decide +kernel
theorem dX0_goOneRope_47 : decode cX0_goOneRope 47 = .ok (.aload_n 0, 1) := by decide +kernel
theorem dX0_goOneRope_48 : decode cX0_goOneRope 48 = .ok (.getfield 9, 3) := by decide +kernel
theorem dX0_goOneRope_51 : decode cX0_goOneRope 51 = .ok (.iload_n 1, 1) := by decide +kernel
theorem dX0_goOneRope_52 : decode cX0_goOneRope 52 = .ok (.iaload, 1) := by decide +kernel
theorem dX0_goOneRope_53 : decode cX0_goOneRope 53 = .ok (.iaload, 1) := by decide +kernel
theorem dX0_goOneRope_54 : decode cX0_goOneRope 54 = .ok (.ldc 121, 2) := by decide +kernel
theorem dX0_goOneRope_56 : decode cX0_goOneRope 56 = .ok (.if_icmp .eq 48, 3) := by decide +kernel
theorem dX0_goOneRope_59 : decode cX0_goOneRope 59 = .ok (.aload_n 0, 1) := by decide +kernel
theorem dX0_goOneRope_60 : decode cX0_goOneRope 60 = .ok (.getfield 32, 3) := by decide +kernel
theorem dX0_goOneRope_63 : decode cX0_goOneRope 63 = .ok (.aload_n 0, 1) := by decide +kernel
theorem dX0_goOneRope_64 : decode cX0_goOneRope 64 = .ok (.getfield 9, 3) := by decide +kernel
theorem dX0_goOneRope_67 : decode cX0_goOneRope 67 = .ok (.iload_n 1, 1) := by decide +kernel
theorem dX0_goOneRope_68 : decode cX0_goOneRope 68 = .ok (.iaload, 1) := by decide +kernel
theorem dX0_goOneRope_69 : decode cX0_goOneRope 69 = .ok (.iaload, 1) := by decide +kernel
theorem dX0_goOneRope_70 : decode cX0_goOneRope 70 = .ok (.aload_n 0, 1) := by decide +kernel
theorem dX0_goOneRope_71 : decode cX0_goOneRope 71 = .ok (.getfield 16, 3) := by decide +kernel
theorem dX0_goOneRope_74 : decode cX0_goOneRope 74 = .ok (.iload_n 1, 1) := by decide +kernel
theorem dX0_goOneRope_75 : decode cX0_goOneRope 75 = .ok (.iaload, 1) := by decide +kernel
theorem dX0_goOneRope_76 : decode cX0_goOneRope 76 = .ok (.iadd, 1) := by decide +kernel
theorem dX0_goOneRope_77 : decode cX0_goOneRope 77 = .ok (.istore_n 2, 1) := by decide +kernel
theorem dX0_goOneRope_78 : decode cX0_goOneRope 78 = .ok (.aload_n 0, 1) := by decide +kernel
theorem dX0_goOneRope_79 : decode cX0_goOneRope 79 = .ok (.getfield 35, 3) := by decide +kernel
theorem dX0_goOneRope_82 : decode cX0_goOneRope 82 = .ok (.aload_n 0, 1) := by decide +kernel
theorem dX0_goOneRope_83 : decode cX0_goOneRope 83 = .ok (.getfield 13, 3) := by decide +kernel
theorem dX0_goOneRope_86 : decode cX0_goOneRope 86 = .ok (.iload_n 1, 1) := by decide +kernel
theorem dX0_goOneRope_87 : decode cX0_goOneRope 87 = .ok (.iaload, 1) := by decide +kernel
theorem dX0_goOneRope_88 : decode cX0_goOneRope 88 = .ok (.aload_n 0, 1) := by decide +kernel
theorem dX0_goOneRope_89 : decode cX0_goOneRope 89 = .ok (.getfield 35, 3) := by decide +kernel
theorem dX0_goOneRope_92 : decode cX0_goOneRope 92 = .ok (.aload_n 0, 1) := by decide +kernel
theorem dX0_goOneRope_93 : decode cX0_goOneRope 93 = .ok (.getfield 13, 3) := by decide +kernel
theorem dX0_goOneRope_96 : decode cX0_goOneRope 96 = .ok (.iload_n 1, 1) := by decide +kernel
theorem dX0_goOneRope_97 : decode cX0_goOneRope 97 = .ok (.iaload, 1) := by decide +kernel
theorem dX0_goOneRope_98 : decode cX0_goOneRope 98 = .ok (.iaload, 1) := by decide +kernel
theorem dX0_goOneRope_99 : decode cX0_goOneRope 99 = .ok (.iload_n 2, 1) := by decide +kernel
theorem dX0_goOneRope_100 : decode cX0_goOneRope 100 = .ok (.invokestatic 122, 3) := by decide +kernel
theorem dX0_goOneRope_103 : decode cX0_goOneRope 103 = .ok (.iastore, 1) := by decide +kernel
theorem dX0_goOneRope_104 : decode cX0_goOneRope 104 = .ok (.iinc 1 1, 3) := by decide +kernel
theorem dX0_goOneRope_107 : decode cX0_goOneRope 107 = .ok (.goto (-81), 3) := by decide +kernel
theorem dX0_goOneRope_110 : decode cX0_goOneRope 110 = .ok (.iconst 0, 1) := by decide +kernel
theorem dX0_goOneRope_111 : decode cX0_goOneRope 111 = .ok (.istore_n 1, 1) := by decide +kernel
theorem dX0_goOneRope_112 : decode cX0_goOneRope 112 = .ok (.iload_n 1, 1) := by decide +kernel
theorem dX0_goOneRope_113 : decode cX0_goOneRope 113 = .ok (.aload_n 0, 1) := by decide +kernel
theorem dX0_goOneRope_114 : decode cX0_goOneRope 114 = .ok (.getfield 41, 3) := by decide +kernel
theorem dX0_goOneRope_117 : decode cX0_goOneRope 117 = .ok (.if_icmp .ge 21, 3) := by decide +kernel
theorem dX0_goOneRope_120 : decode cX0_goOneRope 120 = .ok (.aload_n 0, 1) := by decide +kernel
theorem dX0_goOneRope_121 : decode cX0_goOneRope 121 = .ok (.getfield 32, 3) := by decide +kernel
theorem dX0_goOneRope_124 : decode cX0_goOneRope 124 = .ok (.iload_n 1, 1) := by decide +kernel
theorem dX0_goOneRope_125 : decode cX0_goOneRope 125 = .ok (.aload_n 0, 1) := by decide +kernel
theorem dX0_goOneRope_126 : decode cX0_goOneRope 126 = .ok (.getfield 35, 3) := by decide +kernel
theorem dX0_goOneRope_129 : decode cX0_goOneRope 129 = .ok (.iload_n 1, 1) := by decide +kernel
theorem dX0_goOneRope_130 : decode cX0_goOneRope 130 = .ok (.iaload, 1) := by decide +kernel
theorem dX0_goOneRope_131 : decode cX0_goOneRope 131 = .ok (.iastore, 1) := by decide +kernel
theorem dX0_goOneRope_132 : decode cX0_goOneRope 132 = .ok (.iinc 1 1, 3) := by decide +kernel
theorem dX0_goOneRope_135 : decode cX0_goOneRope 135 = .ok (.goto (-23), 3) := by decide +kernel
theorem dX0_goOneRope_138 : decode cX0_goOneRope 138 = .ok (.return_, 1) := by decide +kernel
