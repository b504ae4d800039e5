theorem dX1_init_0 : decode cX1_init 0 = .ok (.aload_n 0, 1) := by decide +kernel
theorem dX1_init_1 : decode cX1_init 1 = .ok (.invokespecial 1, 3) := by decide +kernel
theorem dX1_init_4 : decode cX1_init 4 = .ok (.aload_n 0, 1) := by decide +kernel
theorem dX1_init_5 : decode cX1_init 5 = .ok (.bipush 120, 2) := by decide +kernel
theorem dX1_init_7 : decode cX1_init 7 = .ok (.newarray .int, 2) := by decide +kernel
theorem dX1_init_9 : decode cX1_init 9 = .ok (.putfield 9, 3) := by decide +kernel
theorem dX1_init_12 : decode cX1_init 12 = .ok (.return_, 1) := by decide +kernel
theorem dX1_thrown_0 : decode cX1_thrown 0 = .ok (.aload_n 0, 1) := by decide +kernel
theorem dX1_thrown_1 : decode cX1_thrown 1 = .ok (.getfield 13, 3) := by decide +kernel
theorem dX1_thrown_4 : decode cX1_thrown 4 = .ok (.ireturn, 1) := by decide +kernel
theorem dX1_fail_0 : decode cX1_fail 0 = .ok (.aload_n 0, 1) := by decide +kernel
theorem dX1_fail_1 : decode cX1_fail 1 = .ok (.iload_n 1, 1) := by decide +kernel
theorem dX1_fail_2 : decode cX1_fail 2 = .ok (.putfield 13, 3) := by decide +kernel
theorem dX1_fail_5 : decode cX1_fail 5 = .ok (.iconst 0, 1) := by decide +kernel
theorem dX1_fail_6 : decode cX1_fail 6 = .ok (.ireturn, 1) := by decide +kernel
theorem dX1_isIn_0 : decode cX1_isIn 0 = .ok (.iload_n 0, 1) := by decide +kernel
theorem dX1_isIn_1 : decode cX1_isIn 1 = .ok (.iload_n 1, 1) := by decide +kernel
theorem dX1_isIn_2 : decode cX1_isIn 2 = .ok (.if_icmp .lt 12, 3) := by decide +kernel
theorem dX1_isIn_5 : decode cX1_isIn 5 = .ok (.iload_n 0, 1) := by decide +kernel
theorem dX1_isIn_6 : decode cX1_isIn 6 = .ok (.iload_n 2, 1) := by decide +kernel
theorem dX1_isIn_7 : decode cX1_isIn 7 = .ok (.if_icmp .gt 7, 3) := by decide +kernel
theorem dX1_isIn_10 : decode cX1_isIn 10 = .ok (.iconst 1, 1) := by decide +kernel
theorem dX1_isIn_11 : decode cX1_isIn 11 = .ok (.goto 4, 3) := by decide +kernel
theorem dX1_isIn_14 : decode cX1_isIn 14 = .ok (.iconst 0, 1) := by decide +kernel
theorem dX1_isIn_15 : decode cX1_isIn 15 = .ok (.ireturn, 1) := by decide +kernel
set_option maxRecDepth 20000 in
theorem ggX1_isTurn_X1_isIn : GoodIn wsX1_isTurn wsX1_isIn := goodIn_r _ [5] (by decide +kernel) (by decide +kernel)
set_option maxRecDepth 20000 in
theorem gX1_isTurn_X1_isIn : GoodIn wsX1_isTurn (va_wsS RX1 20 yX1_isIn wsX1_isIn) := goodIn_app (goodIn_of _ (by decide +kernel)) ggX1_isTurn_X1_isIn
theorem dX1_isTurn_0 : decode cX1_isTurn 0 = .ok (.iload_n 1, 1) := by decide +kernel
theorem dX1_isTurn_1 : decode cX1_isTurn 1 = .ok (.iconst 0, 1) := by decide +kernel
theorem dX1_isTurn_2 : decode cX1_isTurn 2 = .ok (.aload_n 0, 1) := by decide +kernel
theorem dX1_isTurn_3 : decode cX1_isTurn 3 = .ok (.getfield 17, 3) := by decide +kernel
theorem dX1_isTurn_6 : decode cX1_isTurn 6 = .ok (.iconst 1, 1) := by decide +kernel
theorem dX1_isTurn_7 : decode cX1_isTurn 7 = .ok (.isub, 1) := by decide +kernel
theorem dX1_isTurn_8 : decode cX1_isTurn 8 = .ok (.invokestatic 20, 3) := by decide +kernel
theorem dX1_isTurn_11 : decode cX1_isTurn 11 = .ok (.ireturn, 1) := by decide +kernel
set_option maxRecDepth 20000 in
theorem ggX1_isRope_X1_isIn : GoodIn wsX1_isRope wsX1_isIn := goodIn_r _ [5] (by decide +kernel) (by decide +kernel)
set_option maxRecDepth 20000 in
theorem gX1_isRope_X1_isIn : GoodIn wsX1_isRope (va_wsS RX1 20 yX1_isIn wsX1_isIn) := goodIn_app (goodIn_of _ (by decide +kernel)) ggX1_isRope_X1_isIn
theorem dX1_isRope_0 : decode cX1_isRope 0 = .ok (.iload_n 1, 1) := by decide +kernel
theorem dX1_isRope_1 : decode cX1_isRope 1 = .ok (.iconst 0, 1) := by decide +kernel
theorem dX1_isRope_2 : decode cX1_isRope 2 = .ok (.aload_n 0, 1) := by decide +kernel
theorem dX1_isRope_3 : decode cX1_isRope 3 = .ok (.getfield 24, 3) := by decide +kernel
theorem dX1_isRope_6 : decode cX1_isRope 6 = .ok (.iconst 1, 1) := by decide +kernel
theorem dX1_isRope_7 : decode cX1_isRope 7 = .ok (.isub, 1) := by decide +kernel
theorem dX1_isRope_8 : decode cX1_isRope 8 = .ok (.invokestatic 20, 3) := by decide +kernel
theorem dX1_isRope_11 : decode cX1_isRope 11 = .ok (.ireturn, 1) := by decide +kernel
set_option maxRecDepth 20000 in
theorem ggX1_isLong_X1_isIn : GoodIn wsX1_isLong wsX1_isIn := goodIn_r _ [4] (by decide +kernel) (by decide +kernel)
set_option maxRecDepth 20000 in
theorem gX1_isLong_X1_isIn : GoodIn wsX1_isLong (va_wsS RX1 20 yX1_isIn wsX1_isIn) := goodIn_app (goodIn_of _ (by decide +kernel)) ggX1_isLong_X1_isIn
theorem dX1_isLong_0 : decode cX1_isLong 0 = .ok (.iload_n 0, 1) := by decide +kernel
theorem dX1_isLong_1 : decode cX1_isLong 1 = .ok (.bipush (-99), 2) := by decide +kernel
theorem dX1_isLong_3 : decode cX1_isLong 3 = .ok (.bipush 99, 2) := by decide +kernel
theorem dX1_isLong_5 : decode cX1_isLong 5 = .ok (.invokestatic 20, 3) := by decide +kernel
theorem dX1_isLong_8 : decode cX1_isLong 8 = .ok (.ireturn, 1) := by decide +kernel
theorem dX1_ro_0 : decode cX1_ro 0 = .ok (.aload_n 0, 1) := by decide +kernel
theorem dX1_ro_1 : decode cX1_ro 1 = .ok (.getfield 9, 3) := by decide +kernel
theorem dX1_ro_4 : decode cX1_ro 4 = .ok (.iconst 4, 1) := by decide +kernel
theorem dX1_ro_5 : decode cX1_ro 5 = .ok (.iload_n 1, 1) := by decide +kernel
theorem dX1_ro_6 : decode cX1_ro 6 = .ok (.imul, 1) := by decide +kernel
theorem dX1_ro_7 : decode cX1_ro 7 = .ok (.iload_n 2, 1) := by decide +kernel
theorem dX1_ro_8 : decode cX1_ro 8 = .ok (.iadd, 1) := by decide +kernel
theorem dX1_ro_9 : decode cX1_ro 9 = .ok (.iaload, 1) := by decide +kernel
theorem dX1_ro_10 : decode cX1_ro 10 = .ok (.ireturn, 1) := by decide +kernel
set_option maxRecDepth 20000 in
theorem ggX1_isTied_X1_ro : GoodIn wsX1_isTied wsX1_ro := goodIn_r _ [5, 6, 7, 8, 9, 10] (by decide +kernel) (by decide +kernel)
set_option maxRecDepth 20000 in
theorem gX1_isTied_X1_ro : GoodIn wsX1_isTied (wsV RX1 27 RX1 yX1_ro wsX1_ro) := goodIn_app (goodIn_of _ (by decide +kernel)) ggX1_isTied_X1_ro
theorem dX1_isTied_0 : decode cX1_isTied 0 = .ok (.aload_n 0, 1) := by decide +kernel
theorem dX1_isTied_1 : decode cX1_isTied 1 = .ok (.iload_n 1, 1) := by decide +kernel
theorem dX1_isTied_2 : decode cX1_isTied 2 = .ok (.iconst 3, 1) := by decide +kernel
theorem dX1_isTied_3 : decode cX1_isTied 3 = .ok (.invokevirtual 27, 3) := by decide +kernel
theorem dX1_isTied_6 : decode cX1_isTied 6 = .ok (.iconst 1, 1) := by decide +kernel
theorem dX1_isTied_7 : decode cX1_isTied 7 = .ok (.if_icmp .ne 7, 3) := by decide +kernel
theorem dX1_isTied_10 : decode cX1_isTied 10 = .ok (.iconst 1, 1) := by decide +kernel
theorem dX1_isTied_11 : decode cX1_isTied 11 = .ok (.goto 4, 3) := by decide +kernel
theorem dX1_isTied_14 : decode cX1_isTied 14 = .ok (.iconst 0, 1) := by decide +kernel
theorem dX1_isTied_15 : decode cX1_isTied 15 = .ok (.ireturn, 1) := by decide +kernel
set_option maxRecDepth 20000 in
theorem ggX1_earliest_X1_ro : GoodIn wsX1_earliest wsX1_ro := goodIn_r _ [8, 9, 14, 15, 16, 17] (by decide +kernel) (by decide +kernel)
set_option maxRecDepth 20000 in
theorem gX1_earliest_X1_ro : GoodIn wsX1_earliest (wsV RX1 27 RX1 yX1_ro wsX1_ro) := goodIn_app (goodIn_of _ (by decide +kernel)) ggX1_earliest_X1_ro
set_option maxRecDepth 20000 in
theorem ggX1_earliest_X1_isTied : GoodIn wsX1_earliest wsX1_isTied := goodIn_r _ [13, 4, 5, 6, 7, 8, 9, 14, 15, 16, 17] (by decide +kernel) (by decide +kernel)
set_option maxRecDepth 20000 in
theorem gX1_earliest_X1_isTied : GoodIn wsX1_earliest (wsV RX1 31 RX1 yX1_isTied wsX1_isTied) := goodIn_app (goodIn_of _ (by decide +kernel)) ggX1_earliest_X1_isTied
theorem dX1_earliest_0 : decode cX1_earliest 0 = .ok (.bipush 13, 2) := by decide +kernel
theorem dX1_earliest_2 : decode cX1_earliest 2 = .ok (.newarray .int, 2) := by decide +kernel
theorem dX1_earliest_4 : decode cX1_earliest 4 = .ok (.astore_n 1, 1) := by decide +kernel
theorem dX1_earliest_5 : decode cX1_earliest 5 = .ok (.aload_n 1, 1) := by decide +kernel
theorem dX1_earliest_6 : decode cX1_earliest 6 = .ok (.bipush 12, 2) := by decide +kernel
theorem dX1_earliest_8 : decode cX1_earliest 8 = .ok (.iconst (-1), 1) := by decide +kernel
theorem dX1_earliest_9 : decode cX1_earliest 9 = .ok (.iastore, 1) := by decide +kernel
theorem dX1_earliest_10 : decode cX1_earliest 10 = .ok (.iconst 0, 1) := by decide +kernel
theorem dX1_earliest_11 : decode cX1_earliest 11 = .ok (.istore_n 2, 1) := by decide +kernel
theorem dX1_earliest_12 : decode cX1_earliest 12 = .ok (.iload_n 2, 1) := by decide +kernel
theorem dX1_earliest_13 : decode cX1_earliest 13 = .ok (.aload_n 0, 1) := by decide +kernel
theorem dX1_earliest_14 : decode cX1_earliest 14 = .ok (.getfield 17, 3) := by decide +kernel
theorem dX1_earliest_17 : decode cX1_earliest 17 = .ok (.if_icmp .gt 103, 3) := by decide +kernel
theorem dX1_earliest_20 : decode cX1_earliest 20 = .ok (.iconst 0, 1) := by decide +kernel
theorem dX1_earliest_21 : decode cX1_earliest 21 = .ok (.istore_n 3, 1) := by decide +kernel
theorem dX1_earliest_22 : decode cX1_earliest 22 = .ok (.iconst 0, 1) := by decide +kernel
theorem dX1_earliest_23 : decode cX1_earliest 23 = .ok (.istore 4, 2) := by decide +kernel
theorem dX1_earliest_25 : decode cX1_earliest 25 = .ok (.iload 4, 2) := by decide +kernel
theorem dX1_earliest_27 : decode cX1_earliest 27 = .ok (.aload_n 0, 1) := by decide +kernel
theorem dX1_earliest_28 : decode cX1_earliest 28 = .ok (.getfield 24, 3) := by decide +kernel
theorem dX1_earliest_31 : decode cX1_earliest 31 = .ok (.if_icmp .ge 67, 3) := by decide +kernel
theorem dX1_earliest_34 : decode cX1_earliest 34 = .ok (.aload_n 1, 1) := by decide +kernel
theorem dX1_earliest_35 : decode cX1_earliest 35 = .ok (.aload_n 0, 1) := by decide +kernel
theorem dX1_earliest_36 : decode cX1_earliest 36 = .ok (.iload 4, 2) := by decide +kernel
theorem dX1_earliest_38 : decode cX1_earliest 38 = .ok (.iconst 1, 1) := by decide +kernel
theorem dX1_earliest_39 : decode cX1_earliest 39 = .ok (.invokevirtual 27, 3) := by decide +kernel
theorem dX1_earliest_42 : decode cX1_earliest 42 = .ok (.iaload, 1) := by decide +kernel
theorem dX1_earliest_43 : decode cX1_earliest 43 = .ok (.aload_n 0, 1) := by decide +kernel
theorem dX1_earliest_44 : decode cX1_earliest 44 = .ok (.iload 4, 2) := by decide +kernel
theorem dX1_earliest_46 : decode cX1_earliest 46 = .ok (.iconst 2, 1) := by decide +kernel
theorem dX1_earliest_47 : decode cX1_earliest 47 = .ok (.invokevirtual 27, 3) := by decide +kernel
theorem dX1_earliest_50 : decode cX1_earliest 50 = .ok (.isub, 1) := by decide +kernel
theorem dX1_earliest_51 : decode cX1_earliest 51 = .ok (.istore 5, 2) := by decide +kernel
theorem dX1_earliest_53 : decode cX1_earliest 53 = .ok (.aload_n 0, 1) := by decide +kernel
theorem dX1_earliest_54 : decode cX1_earliest 54 = .ok (.iload 4, 2) := by decide +kernel
theorem dX1_earliest_56 : decode cX1_earliest 56 = .ok (.invokevirtual 31, 3) := by decide +kernel
theorem dX1_earliest_59 : decode cX1_earliest 59 = .ok (.ifCond .eq 33, 3) := by decide +kernel
theorem dX1_earliest_62 : decode cX1_earliest 62 = .ok (.aload_n 1, 1) := by decide +kernel
theorem dX1_earliest_63 : decode cX1_earliest 63 = .ok (.aload_n 0, 1) := by decide +kernel
theorem dX1_earliest_64 : decode cX1_earliest 64 = .ok (.iload 4, 2) := by decide +kernel
theorem dX1_earliest_66 : decode cX1_earliest 66 = .ok (.iconst 0, 1) := by decide +kernel
theorem dX1_earliest_67 : decode cX1_earliest 67 = .ok (.invokevirtual 27, 3) := by decide +kernel
theorem dX1_earliest_70 : decode cX1_earliest 70 = .ok (.iaload, 1) := by decide +kernel
theorem dX1_earliest_71 : decode cX1_earliest 71 = .ok (.iload 5, 2) := by decide +kernel
theorem dX1_earliest_73 : decode cX1_earliest 73 = .ok (.if_icmp .lt 6, 3) := by decide +kernel
theorem dX1_earliest_76 : decode cX1_earliest 76 = .ok (.goto 16, 3) := by decide +kernel
theorem dX1_earliest_79 : decode cX1_earliest 79 = .ok (.aload_n 1, 1) := by decide +kernel
theorem dX1_earliest_80 : decode cX1_earliest 80 = .ok (.aload_n 0, 1) := by decide +kernel
theorem dX1_earliest_81 : decode cX1_earliest 81 = .ok (.iload 4, 2) := by decide +kernel
theorem dX1_earliest_83 : decode cX1_earliest 83 = .ok (.iconst 0, 1) := by decide +kernel
theorem dX1_earliest_84 : decode cX1_earliest 84 = .ok (.invokevirtual 27, 3) := by decide +kernel
theorem dX1_earliest_87 : decode cX1_earliest 87 = .ok (.iload 5, 2) := by decide +kernel
theorem dX1_earliest_89 : decode cX1_earliest 89 = .ok (.iastore, 1) := by decide +kernel
theorem dX1_earliest_90 : decode cX1_earliest 90 = .ok (.iconst 1, 1) := by decide +kernel
theorem dX1_earliest_91 : decode cX1_earliest 91 = .ok (.istore_n 3, 1) := by decide +kernel
theorem dX1_earliest_92 : decode cX1_earliest 92 = .ok (.iinc 4 1, 3) := by decide +kernel
theorem dX1_earliest_95 : decode cX1_earliest 95 = .ok (.goto (-70), 3) := by decide +kernel
theorem dX1_earliest_98 : decode cX1_earliest 98 = .ok (.iload_n 3, 1) := by decide +kernel
theorem dX1_earliest_99 : decode cX1_earliest 99 = .ok (.ifCond .eq 6, 3) := by decide +kernel
theorem dX1_earliest_102 : decode cX1_earliest 102 = .ok (.goto 12, 3) := by decide +kernel
theorem dX1_earliest_105 : decode cX1_earliest 105 = .ok (.aload_n 1, 1) := by decide +kernel
theorem dX1_earliest_106 : decode cX1_earliest 106 = .ok (.bipush 12, 2) := by decide +kernel
theorem dX1_earliest_108 : decode cX1_earliest 108 = .ok (.iload_n 2, 1) := by decide +kernel
theorem dX1_earliest_109 : decode cX1_earliest 109 = .ok (.iconst 1, 1) := by decide +kernel
theorem dX1_earliest_110 : decode cX1_earliest 110 = .ok (.iadd, 1) := by decide +kernel
theorem dX1_earliest_111 : decode cX1_earliest 111 = .ok (.iastore, 1) := by decide +kernel
theorem dX1_earliest_112 : decode cX1_earliest 112 = .ok (.aload_n 1, 1) := by decide +kernel
theorem dX1_earliest_113 : decode cX1_earliest 113 = .ok (.areturn, 1) := by decide +kernel
theorem dX1_earliest_114 : decode cX1_earliest 114 = .ok (.iinc 2 1, 3) := by decide +kernel
theorem dX1_earliest_117 : decode cX1_earliest 117 = .ok (.goto (-105), 3) := by decide +kernel
theorem dX1_earliest_120 : decode cX1_earliest 120 = .ok (.aload_n 1, 1) := by decide +kernel
theorem dX1_earliest_121 : decode cX1_earliest 121 = .ok (.areturn, 1) := by decide +kernel
theorem dX1_isFound_0 : decode cX1_isFound 0 = .ok (.aload_n 1, 1) := by decide +kernel
theorem dX1_isFound_1 : decode cX1_isFound 1 = .ok (.bipush 12, 2) := by decide +kernel
theorem dX1_isFound_3 : decode cX1_isFound 3 = .ok (.iaload, 1) := by decide +kernel
theorem dX1_isFound_4 : decode cX1_isFound 4 = .ok (.iconst (-1), 1) := by decide +kernel
theorem dX1_isFound_5 : decode cX1_isFound 5 = .ok (.if_icmp .eq 7, 3) := by decide +kernel
theorem dX1_isFound_8 : decode cX1_isFound 8 = .ok (.iconst 1, 1) := by decide +kernel
theorem dX1_isFound_9 : decode cX1_isFound 9 = .ok (.goto 4, 3) := by decide +kernel
theorem dX1_isFound_12 : decode cX1_isFound 12 = .ok (.iconst 0, 1) := by decide +kernel
theorem dX1_isFound_13 : decode cX1_isFound 13 = .ok (.ireturn, 1) := by decide +kernel
set_option maxRecDepth 20000 in
theorem ggX1_isHeld_X1_earliest : GoodIn wsX1_isHeld wsX1_earliest := goodIn_r _ [5, 6, 7, 8, 9, 10, 11, 4, 12, 13, 14, 15, 16, 17, 22, 23, 24, 25] (by decide +kernel) (by decide +kernel)
set_option maxRecDepth 20000 in
theorem gX1_isHeld_X1_earliest : GoodIn wsX1_isHeld (wsV RX1 35 RX1 yX1_earliest wsX1_earliest) := goodIn_app (goodIn_of _ (by decide +kernel)) ggX1_isHeld_X1_earliest
set_option maxRecDepth 20000 in
theorem ggX1_isHeld_X1_isFound : GoodIn wsX1_isHeld wsX1_isFound := goodIn_r _ [21] (by decide +kernel) (by decide +kernel)
set_option maxRecDepth 20000 in
theorem gX1_isHeld_X1_isFound : GoodIn wsX1_isHeld (wsV RX1 39 RX1 yX1_isFound wsX1_isFound) := goodIn_app (goodIn_of _ (by decide +kernel)) ggX1_isHeld_X1_isFound
theorem dX1_isHeld_0 : decode cX1_isHeld 0 = .ok (.aload_n 0, 1) := by decide +kernel
theorem dX1_isHeld_1 : decode cX1_isHeld 1 = .ok (.aload_n 0, 1) := by decide +kernel
theorem dX1_isHeld_2 : decode cX1_isHeld 2 = .ok (.invokevirtual 35, 3) := by decide +kernel
theorem dX1_isHeld_5 : decode cX1_isHeld 5 = .ok (.invokevirtual 39, 3) := by decide +kernel
theorem dX1_isHeld_8 : decode cX1_isHeld 8 = .ok (.ireturn, 1) := by decide +kernel
theorem dX1_last_0 : decode cX1_last 0 = .ok (.iconst 0, 1) := by decide +kernel
theorem dX1_last_1 : decode cX1_last 1 = .ok (.istore_n 2, 1) := by decide +kernel
theorem dX1_last_2 : decode cX1_last 2 = .ok (.iconst 0, 1) := by decide +kernel
theorem dX1_last_3 : decode cX1_last 3 = .ok (.istore_n 3, 1) := by decide +kernel
theorem dX1_last_4 : decode cX1_last 4 = .ok (.iload_n 3, 1) := by decide +kernel
theorem dX1_last_5 : decode cX1_last 5 = .ok (.aload_n 0, 1) := by decide +kernel
theorem dX1_last_6 : decode cX1_last 6 = .ok (.getfield 17, 3) := by decide +kernel
theorem dX1_last_9 : decode cX1_last 9 = .ok (.if_icmp .ge 17, 3) := by decide +kernel
theorem dX1_last_12 : decode cX1_last 12 = .ok (.iload_n 2, 1) := by decide +kernel
theorem dX1_last_13 : decode cX1_last 13 = .ok (.aload_n 1, 1) := by decide +kernel
theorem dX1_last_14 : decode cX1_last 14 = .ok (.iload_n 3, 1) := by decide +kernel
theorem dX1_last_15 : decode cX1_last 15 = .ok (.iaload, 1) := by decide +kernel
theorem dX1_last_16 : decode cX1_last 16 = .ok (.invokestatic 43, 3) := by decide +kernel
theorem dX1_last_19 : decode cX1_last 19 = .ok (.istore_n 2, 1) := by decide +kernel
theorem dX1_last_20 : decode cX1_last 20 = .ok (.iinc 3 1, 3) := by decide +kernel
theorem dX1_last_23 : decode cX1_last 23 = .ok (.goto (-19), 3) := by decide +kernel
theorem dX1_last_26 : decode cX1_last 26 = .ok (.iload_n 2, 1) := by decide +kernel
theorem dX1_last_27 : decode cX1_last 27 = .ok (.ireturn, 1) := by decide +kernel
set_option maxRecDepth 20000 in
theorem ggX1_ways_X1_isTied : GoodIn wsX1_ways wsX1_isTied := goodIn_r _ [14, 15, 16, 17, 13, 18, 19, 20, 21, 22, 23] (by decide +kernel) (by decide +kernel)
set_option maxRecDepth 20000 in
theorem gX1_ways_X1_isTied : GoodIn wsX1_ways (wsV RX1 31 RX1 yX1_isTied wsX1_isTied) := goodIn_app (goodIn_of _ (by decide +kernel)) ggX1_ways_X1_isTied
set_option maxRecDepth 20000 in
theorem ggX1_ways_X1_ro : GoodIn wsX1_ways wsX1_ro := goodIn_r _ [18, 19, 20, 21, 22, 23] (by decide +kernel) (by decide +kernel)
set_option maxRecDepth 20000 in
theorem gX1_ways_X1_ro : GoodIn wsX1_ways (wsV RX1 27 RX1 yX1_ro wsX1_ro) := goodIn_app (goodIn_of _ (by decide +kernel)) ggX1_ways_X1_ro
theorem dX1_ways_0 : decode cX1_ways 0 = .ok (.bipush 12, 2) := by decide +kernel
theorem dX1_ways_2 : decode cX1_ways 2 = .ok (.bipush 12, 2) := by decide +kernel
theorem dX1_ways_4 : decode cX1_ways 4 = .ok (.multianewarray 48 2, 4) := by decide +kernel
theorem dX1_ways_8 : decode cX1_ways 8 = .ok (.astore_n 1, 1) := by decide +kernel
theorem dX1_ways_9 : decode cX1_ways 9 = .ok (.iconst 0, 1) := by decide +kernel
theorem dX1_ways_10 : decode cX1_ways 10 = .ok (.istore_n 2, 1) := by decide +kernel
theorem dX1_ways_11 : decode cX1_ways 11 = .ok (.iload_n 2, 1) := by decide +kernel
theorem dX1_ways_12 : decode cX1_ways 12 = .ok (.bipush 12, 2) := by decide +kernel
theorem dX1_ways_14 : decode cX1_ways 14 = .ok (.if_icmp .ge 39, 3) := by decide +kernel
theorem dX1_ways_17 : decode cX1_ways 17 = .ok (.iconst 0, 1) := by decide +kernel
theorem dX1_ways_18 : decode cX1_ways 18 = .ok (.istore_n 3, 1) := by decide +kernel
theorem dX1_ways_19 : decode cX1_ways 19 = .ok (.iload_n 3, 1) := by decide +kernel
theorem dX1_ways_20 : decode cX1_ways 20 = .ok (.bipush 12, 2) := by decide +kernel
theorem dX1_ways_22 : decode cX1_ways 22 = .ok (.if_icmp .ge 25, 3) := by decide +kernel
theorem dX1_ways_25 : decode cX1_ways 25 = .ok (.aload_n 1, 1) := by decide +kernel
theorem dX1_ways_26 : decode cX1_ways 26 = .ok (.iload_n 2, 1) := by decide +kernel
theorem dX1_ways_27 : decode cX1_ways 27 = .ok (.aaload, 1) := by decide +kernel
theorem dX1_ways_28 : decode cX1_ways 28 = .ok (.iload_n 3, 1) := by decide +kernel
theorem dX1_ways_29 : decode cX1_ways 29 = .ok (.iload_n 2, 1) := by decide +kernel
theorem dX1_ways_30 : decode cX1_ways 30 = .ok (.iload_n 3, 1) := by decide +kernel
theorem dX1_ways_31 : decode cX1_ways 31 = .ok (.if_icmp .ne 7, 3) := by decide +kernel
theorem dX1_ways_34 : decode cX1_ways 34 = .ok (.iconst 0, 1) := by decide +kernel
theorem dX1_ways_35 : decode cX1_ways 35 = .ok (.goto 5, 3) := by decide +kernel
theorem dX1_ways_38 : decode cX1_ways 38 = .ok (.ldc 50, 2) := by decide +kernel
theorem dX1_ways_40 : decode cX1_ways 40 = .ok (.iastore, 1) := by decide +kernel
theorem dX1_ways_41 : decode cX1_ways 41 = .ok (.iinc 3 1, 3) := by decide +kernel
theorem dX1_ways_44 : decode cX1_ways 44 = .ok (.goto (-25), 3) := by decide +kernel
theorem dX1_ways_47 : decode cX1_ways 47 = .ok (.iinc 2 1, 3) := by decide +kernel
theorem dX1_ways_50 : decode cX1_ways 50 = .ok (.goto (-39), 3) := by decide +kernel
theorem dX1_ways_53 : decode cX1_ways 53 = .ok (.iconst 0, 1) := by decide +kernel
theorem dX1_ways_54 : decode cX1_ways 54 = .ok (.istore_n 2, 1) := by decide +kernel
theorem dX1_ways_55 : decode cX1_ways 55 = .ok (.iload_n 2, 1) := by decide +kernel
theorem dX1_ways_56 : decode cX1_ways 56 = .ok (.aload_n 0, 1) := by decide +kernel
theorem dX1_ways_57 : decode cX1_ways 57 = .ok (.getfield 24, 3) := by decide +kernel
theorem dX1_ways_60 : decode cX1_ways 60 = .ok (.if_icmp .ge 56, 3) := by decide +kernel
theorem dX1_ways_63 : decode cX1_ways 63 = .ok (.aload_n 0, 1) := by decide +kernel
theorem dX1_ways_64 : decode cX1_ways 64 = .ok (.iload_n 2, 1) := by decide +kernel
theorem dX1_ways_65 : decode cX1_ways 65 = .ok (.invokevirtual 31, 3) := by decide +kernel
theorem dX1_ways_68 : decode cX1_ways 68 = .ok (.ifCond .eq 42, 3) := by decide +kernel
theorem dX1_ways_71 : decode cX1_ways 71 = .ok (.aload_n 1, 1) := by decide +kernel
theorem dX1_ways_72 : decode cX1_ways 72 = .ok (.aload_n 0, 1) := by decide +kernel
theorem dX1_ways_73 : decode cX1_ways 73 = .ok (.iload_n 2, 1) := by decide +kernel
theorem dX1_ways_74 : decode cX1_ways 74 = .ok (.iconst 0, 1) := by decide +kernel
theorem dX1_ways_75 : decode cX1_ways 75 = .ok (.invokevirtual 27, 3) := by decide +kernel
theorem dX1_ways_78 : decode cX1_ways 78 = .ok (.aaload, 1) := by decide +kernel
theorem dX1_ways_79 : decode cX1_ways 79 = .ok (.aload_n 0, 1) := by decide +kernel
theorem dX1_ways_80 : decode cX1_ways 80 = .ok (.iload_n 2, 1) := by decide +kernel
theorem dX1_ways_81 : decode cX1_ways 81 = .ok (.iconst 1, 1) := by decide +kernel
theorem dX1_ways_82 : decode cX1_ways 82 = .ok (.invokevirtual 27, 3) := by decide +kernel
theorem dX1_ways_85 : decode cX1_ways 85 = .ok (.aload_n 1, 1) := by decide +kernel
theorem dX1_ways_86 : decode cX1_ways 86 = .ok (.aload_n 0, 1) := by decide +kernel
theorem dX1_ways_87 : decode cX1_ways 87 = .ok (.iload_n 2, 1) := by decide +kernel
theorem dX1_ways_88 : decode cX1_ways 88 = .ok (.iconst 0, 1) := by decide +kernel
theorem dX1_ways_89 : decode cX1_ways 89 = .ok (.invokevirtual 27, 3) := by decide +kernel
theorem dX1_ways_92 : decode cX1_ways 92 = .ok (.aaload, 1) := by decide +kernel
theorem dX1_ways_93 : decode cX1_ways 93 = .ok (.aload_n 0, 1) := by decide +kernel
theorem dX1_ways_94 : decode cX1_ways 94 = .ok (.iload_n 2, 1) := by decide +kernel
theorem dX1_ways_95 : decode cX1_ways 95 = .ok (.iconst 1, 1) := by decide +kernel
theorem dX1_ways_96 : decode cX1_ways 96 = .ok (.invokevirtual 27, 3) := by decide +kernel
theorem dX1_ways_99 : decode cX1_ways 99 = .ok (.iaload, 1) := by decide +kernel
theorem dX1_ways_100 : decode cX1_ways 100 = .ok (.aload_n 0, 1) := by decide +kernel
theorem dX1_ways_101 : decode cX1_ways 101 = .ok (.iload_n 2, 1) := by decide +kernel
theorem dX1_ways_102 : decode cX1_ways 102 = .ok (.iconst 2, 1) := by decide +kernel
theorem dX1_ways_103 : decode cX1_ways 103 = .ok (.invokevirtual 27, 3) := by decide +kernel
theorem dX1_ways_106 : decode cX1_ways 106 = .ok (.invokestatic 51, 3) := by decide +kernel
theorem dX1_ways_109 : decode cX1_ways 109 = .ok (.iastore, 1) := by decide +kernel
theorem dX1_ways_110 : decode cX1_ways 110 = .ok (.iinc 2 1, 3) := by decide +kernel
theorem dX1_ways_113 : decode cX1_ways 113 = .ok (.goto (-58), 3) := by decide +kernel
theorem dX1_ways_116 : decode cX1_ways 116 = .ok (.iconst 0, 1) := by decide +kernel
theorem dX1_ways_117 : decode cX1_ways 117 = .ok (.istore_n 2, 1) := by decide +kernel
theorem dX1_ways_118 : decode cX1_ways 118 = .ok (.iload_n 2, 1) := by decide +kernel
theorem dX1_ways_119 : decode cX1_ways 119 = .ok (.aload_n 0, 1) := by decide +kernel
theorem dX1_ways_120 : decode cX1_ways 120 = .ok (.getfield 17, 3) := by decide +kernel
theorem dX1_ways_123 : decode cX1_ways 123 = .ok (.if_icmp .ge 91, 3) := by decide +kernel
theorem dX1_ways_126 : decode cX1_ways 126 = .ok (.iconst 0, 1) := by decide +kernel
theorem dX1_ways_127 : decode cX1_ways 127 = .ok (.istore_n 3, 1) := by decide +kernel
theorem dX1_ways_128 : decode cX1_ways 128 = .ok (.iload_n 3, 1) := by decide +kernel
theorem dX1_ways_129 : decode cX1_ways 129 = .ok (.aload_n 0, 1) := by decide +kernel
theorem dX1_ways_130 : decode cX1_ways 130 = .ok (.getfield 17, 3) := by decide +kernel
theorem dX1_ways_133 : decode cX1_ways 133 = .ok (.if_icmp .ge 75, 3) := by decide +kernel
theorem dX1_ways_136 : decode cX1_ways 136 = .ok (.iconst 0, 1) := by decide +kernel
theorem dX1_ways_137 : decode cX1_ways 137 = .ok (.istore 4, 2) := by decide +kernel
theorem dX1_ways_139 : decode cX1_ways 139 = .ok (.iload 4, 2) := by decide +kernel
theorem dX1_ways_141 : decode cX1_ways 141 = .ok (.aload_n 0, 1) := by decide +kernel
theorem dX1_ways_142 : decode cX1_ways 142 = .ok (.getfield 17, 3) := by decide +kernel
theorem dX1_ways_145 : decode cX1_ways 145 = .ok (.if_icmp .ge 57, 3) := by decide +kernel
theorem dX1_ways_148 : decode cX1_ways 148 = .ok (.aload_n 1, 1) := by decide +kernel
theorem dX1_ways_149 : decode cX1_ways 149 = .ok (.iload_n 3, 1) := by decide +kernel
theorem dX1_ways_150 : decode cX1_ways 150 = .ok (.aaload, 1) := by decide +kernel
theorem dX1_ways_151 : decode cX1_ways 151 = .ok (.iload_n 2, 1) := by decide +kernel
theorem dX1_ways_152 : decode cX1_ways 152 = .ok (.iaload, 1) := by decide +kernel
theorem dX1_ways_153 : decode cX1_ways 153 = .ok (.ldc 50, 2) := by decide +kernel
theorem dX1_ways_155 : decode cX1_ways 155 = .ok (.if_icmp .eq 41, 3) := by decide +kernel
theorem dX1_ways_158 : decode cX1_ways 158 = .ok (.aload_n 1, 1) := by decide +kernel
theorem dX1_ways_159 : decode cX1_ways 159 = .ok (.iload_n 2, 1) := by decide +kernel
theorem dX1_ways_160 : decode cX1_ways 160 = .ok (.aaload, 1) := by decide +kernel
theorem dX1_ways_161 : decode cX1_ways 161 = .ok (.iload 4, 2) := by decide +kernel
theorem dX1_ways_163 : decode cX1_ways 163 = .ok (.iaload, 1) := by decide +kernel
theorem dX1_ways_164 : decode cX1_ways 164 = .ok (.ldc 50, 2) := by decide +kernel
theorem dX1_ways_166 : decode cX1_ways 166 = .ok (.if_icmp .eq 30, 3) := by decide +kernel
theorem dX1_ways_169 : decode cX1_ways 169 = .ok (.aload_n 1, 1) := by decide +kernel
theorem dX1_ways_170 : decode cX1_ways 170 = .ok (.iload_n 3, 1) := by decide +kernel
theorem dX1_ways_171 : decode cX1_ways 171 = .ok (.aaload, 1) := by decide +kernel
theorem dX1_ways_172 : decode cX1_ways 172 = .ok (.iload 4, 2) := by decide +kernel
theorem dX1_ways_174 : decode cX1_ways 174 = .ok (.aload_n 1, 1) := by decide +kernel
theorem dX1_ways_175 : decode cX1_ways 175 = .ok (.iload_n 3, 1) := by decide +kernel
theorem dX1_ways_176 : decode cX1_ways 176 = .ok (.aaload, 1) := by decide +kernel
theorem dX1_ways_177 : decode cX1_ways 177 = .ok (.iload 4, 2) := by decide +kernel
theorem dX1_ways_179 : decode cX1_ways 179 = .ok (.iaload, 1) := by decide +kernel
theorem dX1_ways_180 : decode cX1_ways 180 = .ok (.aload_n 1, 1) := by decide +kernel
theorem dX1_ways_181 : decode cX1_ways 181 = .ok (.iload_n 3, 1) := by decide +kernel
theorem dX1_ways_182 : decode cX1_ways 182 = .ok (.aaload, 1) := by decide +kernel
theorem dX1_ways_183 : decode cX1_ways 183 = .ok (.iload_n 2, 1) := by decide +kernel
theorem dX1_ways_184 : decode cX1_ways 184 = .ok (.iaload, 1) := by decide +kernel
theorem dX1_ways_185 : decode cX1_ways 185 = .ok (.aload_n 1, 1) := by decide +kernel
theorem dX1_ways_186 : decode cX1_ways 186 = .ok (.iload_n 2, 1) := by decide +kernel
theorem dX1_ways_187 : decode cX1_ways 187 = .ok (.aaload, 1) := by decide +kernel
theorem dX1_ways_188 : decode cX1_ways 188 = .ok (.iload 4, 2) := by decide +kernel
theorem dX1_ways_190 : decode cX1_ways 190 = .ok (.iaload, 1) := by decide +kernel
theorem dX1_ways_191 : decode cX1_ways 191 = .ok (.iadd, 1) := by decide +kernel
theorem dX1_ways_192 : decode cX1_ways 192 = .ok (.invokestatic 51, 3) := by decide +kernel
theorem dX1_ways_195 : decode cX1_ways 195 = .ok (.iastore, 1) := by decide +kernel
theorem dX1_ways_196 : decode cX1_ways 196 = .ok (.iinc 4 1, 3) := by decide +kernel
theorem dX1_ways_199 : decode cX1_ways 199 = .ok (.goto (-60), 3) := by decide +kernel
theorem dX1_ways_202 : decode cX1_ways 202 = .ok (.iinc 3 1, 3) := by decide +kernel
theorem dX1_ways_205 : decode cX1_ways 205 = .ok (.goto (-77), 3) := by decide +kernel
theorem dX1_ways_208 : decode cX1_ways 208 = .ok (.iinc 2 1, 3) := by decide +kernel
theorem dX1_ways_211 : decode cX1_ways 211 = .ok (.goto (-93), 3) := by decide +kernel
theorem dX1_ways_214 : decode cX1_ways 214 = .ok (.aload_n 1, 1) := by decide +kernel
theorem dX1_ways_215 : decode cX1_ways 215 = .ok (.areturn, 1) := by decide +kernel
set_option maxRecDepth 20000 in
theorem ggX1_ring_X1_isTied : GoodIn wsX1_ring wsX1_isTied := goodIn_r _ [13, 14, 15, 16, 12, 17, 18, 19, 20, 21, 22] (by decide +kernel) (by decide +kernel)
set_option maxRecDepth 20000 in
theorem gX1_ring_X1_isTied : GoodIn wsX1_ring (wsV RX1 31 RX1 yX1_isTied wsX1_isTied) := goodIn_app (goodIn_of _ (by decide +kernel)) ggX1_ring_X1_isTied
set_option maxRecDepth 20000 in
theorem ggX1_ring_X1_ro : GoodIn wsX1_ring wsX1_ro := goodIn_r _ [17, 18, 19, 20, 21, 22] (by decide +kernel) (by decide +kernel)
set_option maxRecDepth 20000 in
theorem gX1_ring_X1_ro : GoodIn wsX1_ring (wsV RX1 27 RX1 yX1_ro wsX1_ro) := goodIn_app (goodIn_of _ (by decide +kernel)) ggX1_ring_X1_ro
theorem dX1_ring_0 : decode cX1_ring 0 = .ok (.iconst 0, 1) := by decide +kernel
theorem dX1_ring_1 : decode cX1_ring 1 = .ok (.istore_n 1, 1) := by decide +kernel
theorem dX1_ring_2 : decode cX1_ring 2 = .ok (.iconst 0, 1) := by decide +kernel
theorem dX1_ring_3 : decode cX1_ring 3 = .ok (.istore_n 2, 1) := by decide +kernel
theorem dX1_ring_4 : decode cX1_ring 4 = .ok (.iload_n 2, 1) := by decide +kernel
theorem dX1_ring_5 : decode cX1_ring 5 = .ok (.aload_n 0, 1) := by decide +kernel
theorem dX1_ring_6 : decode cX1_ring 6 = .ok (.getfield 17, 3) := by decide +kernel
theorem dX1_ring_9 : decode cX1_ring 9 = .ok (.if_icmp .ge 196, 3) := by decide +kernel
theorem dX1_ring_12 : decode cX1_ring 12 = .ok (.bipush 12, 2) := by decide +kernel
theorem dX1_ring_14 : decode cX1_ring 14 = .ok (.newarray .int, 2) := by decide +kernel
theorem dX1_ring_16 : decode cX1_ring 16 = .ok (.astore_n 3, 1) := by decide +kernel
theorem dX1_ring_17 : decode cX1_ring 17 = .ok (.iconst 0, 1) := by decide +kernel
theorem dX1_ring_18 : decode cX1_ring 18 = .ok (.istore 4, 2) := by decide +kernel
theorem dX1_ring_20 : decode cX1_ring 20 = .ok (.iload 4, 2) := by decide +kernel
theorem dX1_ring_22 : decode cX1_ring 22 = .ok (.bipush 12, 2) := by decide +kernel
theorem dX1_ring_24 : decode cX1_ring 24 = .ok (.if_icmp .ge 25, 3) := by decide +kernel
theorem dX1_ring_27 : decode cX1_ring 27 = .ok (.aload_n 3, 1) := by decide +kernel
theorem dX1_ring_28 : decode cX1_ring 28 = .ok (.iload 4, 2) := by decide +kernel
theorem dX1_ring_30 : decode cX1_ring 30 = .ok (.iload 4, 2) := by decide +kernel
theorem dX1_ring_32 : decode cX1_ring 32 = .ok (.iload_n 2, 1) := by decide +kernel
theorem dX1_ring_33 : decode cX1_ring 33 = .ok (.if_icmp .ne 7, 3) := by decide +kernel
theorem dX1_ring_36 : decode cX1_ring 36 = .ok (.iconst 0, 1) := by decide +kernel
theorem dX1_ring_37 : decode cX1_ring 37 = .ok (.goto 5, 3) := by decide +kernel
theorem dX1_ring_40 : decode cX1_ring 40 = .ok (.ldc 50, 2) := by decide +kernel
theorem dX1_ring_42 : decode cX1_ring 42 = .ok (.iastore, 1) := by decide +kernel
theorem dX1_ring_43 : decode cX1_ring 43 = .ok (.iinc 4 1, 3) := by decide +kernel
theorem dX1_ring_46 : decode cX1_ring 46 = .ok (.goto (-26), 3) := by decide +kernel
theorem dX1_ring_49 : decode cX1_ring 49 = .ok (.iconst 1, 1) := by decide +kernel
theorem dX1_ring_50 : decode cX1_ring 50 = .ok (.istore 4, 2) := by decide +kernel
theorem dX1_ring_52 : decode cX1_ring 52 = .ok (.iload 4, 2) := by decide +kernel
theorem dX1_ring_54 : decode cX1_ring 54 = .ok (.aload_n 0, 1) := by decide +kernel
theorem dX1_ring_55 : decode cX1_ring 55 = .ok (.getfield 17, 3) := by decide +kernel
theorem dX1_ring_58 : decode cX1_ring 58 = .ok (.if_icmp .gt 141, 3) := by decide +kernel
theorem dX1_ring_61 : decode cX1_ring 61 = .ok (.iload_n 1, 1) := by decide +kernel
theorem dX1_ring_62 : decode cX1_ring 62 = .ok (.ifCond .eq 9, 3) := by decide +kernel
theorem dX1_ring_65 : decode cX1_ring 65 = .ok (.iload 4, 2) := by decide +kernel
theorem dX1_ring_67 : decode cX1_ring 67 = .ok (.iload_n 1, 1) := by decide +kernel
theorem dX1_ring_68 : decode cX1_ring 68 = .ok (.if_icmp .ge 131, 3) := by decide +kernel
theorem dX1_ring_71 : decode cX1_ring 71 = .ok (.bipush 12, 2) := by decide +kernel
theorem dX1_ring_73 : decode cX1_ring 73 = .ok (.newarray .int, 2) := by decide +kernel
theorem dX1_ring_75 : decode cX1_ring 75 = .ok (.astore 5, 2) := by decide +kernel
theorem dX1_ring_77 : decode cX1_ring 77 = .ok (.iconst 0, 1) := by decide +kernel
theorem dX1_ring_78 : decode cX1_ring 78 = .ok (.istore 6, 2) := by decide +kernel
theorem dX1_ring_80 : decode cX1_ring 80 = .ok (.iload 6, 2) := by decide +kernel
theorem dX1_ring_82 : decode cX1_ring 82 = .ok (.bipush 12, 2) := by decide +kernel
theorem dX1_ring_84 : decode cX1_ring 84 = .ok (.if_icmp .ge 16, 3) := by decide +kernel
theorem dX1_ring_87 : decode cX1_ring 87 = .ok (.aload 5, 2) := by decide +kernel
theorem dX1_ring_89 : decode cX1_ring 89 = .ok (.iload 6, 2) := by decide +kernel
theorem dX1_ring_91 : decode cX1_ring 91 = .ok (.ldc 50, 2) := by decide +kernel
theorem dX1_ring_93 : decode cX1_ring 93 = .ok (.iastore, 1) := by decide +kernel
theorem dX1_ring_94 : decode cX1_ring 94 = .ok (.iinc 6 1, 3) := by decide +kernel
theorem dX1_ring_97 : decode cX1_ring 97 = .ok (.goto (-17), 3) := by decide +kernel
theorem dX1_ring_100 : decode cX1_ring 100 = .ok (.iconst 0, 1) := by decide +kernel
theorem dX1_ring_101 : decode cX1_ring 101 = .ok (.istore 6, 2) := by decide +kernel
theorem dX1_ring_103 : decode cX1_ring 103 = .ok (.iload 6, 2) := by decide +kernel
theorem dX1_ring_105 : decode cX1_ring 105 = .ok (.aload_n 0, 1) := by decide +kernel
theorem dX1_ring_106 : decode cX1_ring 106 = .ok (.getfield 24, 3) := by decide +kernel
theorem dX1_ring_109 : decode cX1_ring 109 = .ok (.if_icmp .ge 72, 3) := by decide +kernel
theorem dX1_ring_112 : decode cX1_ring 112 = .ok (.aload_n 0, 1) := by decide +kernel
theorem dX1_ring_113 : decode cX1_ring 113 = .ok (.iload 6, 2) := by decide +kernel
theorem dX1_ring_115 : decode cX1_ring 115 = .ok (.invokevirtual 31, 3) := by decide +kernel
theorem dX1_ring_118 : decode cX1_ring 118 = .ok (.ifCond .eq 57, 3) := by decide +kernel
theorem dX1_ring_121 : decode cX1_ring 121 = .ok (.aload_n 3, 1) := by decide +kernel
theorem dX1_ring_122 : decode cX1_ring 122 = .ok (.aload_n 0, 1) := by decide +kernel
theorem dX1_ring_123 : decode cX1_ring 123 = .ok (.iload 6, 2) := by decide +kernel
theorem dX1_ring_125 : decode cX1_ring 125 = .ok (.iconst 0, 1) := by decide +kernel
theorem dX1_ring_126 : decode cX1_ring 126 = .ok (.invokevirtual 27, 3) := by decide +kernel
theorem dX1_ring_129 : decode cX1_ring 129 = .ok (.iaload, 1) := by decide +kernel
theorem dX1_ring_130 : decode cX1_ring 130 = .ok (.ldc 50, 2) := by decide +kernel
theorem dX1_ring_132 : decode cX1_ring 132 = .ok (.if_icmp .eq 43, 3) := by decide +kernel
theorem dX1_ring_135 : decode cX1_ring 135 = .ok (.aload 5, 2) := by decide +kernel
theorem dX1_ring_137 : decode cX1_ring 137 = .ok (.aload_n 0, 1) := by decide +kernel
theorem dX1_ring_138 : decode cX1_ring 138 = .ok (.iload 6, 2) := by decide +kernel
theorem dX1_ring_140 : decode cX1_ring 140 = .ok (.iconst 1, 1) := by decide +kernel
theorem dX1_ring_141 : decode cX1_ring 141 = .ok (.invokevirtual 27, 3) := by decide +kernel
theorem dX1_ring_144 : decode cX1_ring 144 = .ok (.aload 5, 2) := by decide +kernel
theorem dX1_ring_146 : decode cX1_ring 146 = .ok (.aload_n 0, 1) := by decide +kernel
theorem dX1_ring_147 : decode cX1_ring 147 = .ok (.iload 6, 2) := by decide +kernel
theorem dX1_ring_149 : decode cX1_ring 149 = .ok (.iconst 1, 1) := by decide +kernel
theorem dX1_ring_150 : decode cX1_ring 150 = .ok (.invokevirtual 27, 3) := by decide +kernel
theorem dX1_ring_153 : decode cX1_ring 153 = .ok (.iaload, 1) := by decide +kernel
theorem dX1_ring_154 : decode cX1_ring 154 = .ok (.aload_n 3, 1) := by decide +kernel
theorem dX1_ring_155 : decode cX1_ring 155 = .ok (.aload_n 0, 1) := by decide +kernel
theorem dX1_ring_156 : decode cX1_ring 156 = .ok (.iload 6, 2) := by decide +kernel
theorem dX1_ring_158 : decode cX1_ring 158 = .ok (.iconst 0, 1) := by decide +kernel
theorem dX1_ring_159 : decode cX1_ring 159 = .ok (.invokevirtual 27, 3) := by decide +kernel
theorem dX1_ring_162 : decode cX1_ring 162 = .ok (.iaload, 1) := by decide +kernel
theorem dX1_ring_163 : decode cX1_ring 163 = .ok (.aload_n 0, 1) := by decide +kernel
theorem dX1_ring_164 : decode cX1_ring 164 = .ok (.iload 6, 2) := by decide +kernel
theorem dX1_ring_166 : decode cX1_ring 166 = .ok (.iconst 2, 1) := by decide +kernel
theorem dX1_ring_167 : decode cX1_ring 167 = .ok (.invokevirtual 27, 3) := by decide +kernel
theorem dX1_ring_170 : decode cX1_ring 170 = .ok (.iadd, 1) := by decide +kernel
theorem dX1_ring_171 : decode cX1_ring 171 = .ok (.invokestatic 51, 3) := by decide +kernel
theorem dX1_ring_174 : decode cX1_ring 174 = .ok (.iastore, 1) := by decide +kernel
theorem dX1_ring_175 : decode cX1_ring 175 = .ok (.iinc 6 1, 3) := by decide +kernel
theorem dX1_ring_178 : decode cX1_ring 178 = .ok (.goto (-75), 3) := by decide +kernel
theorem dX1_ring_181 : decode cX1_ring 181 = .ok (.aload 5, 2) := by decide +kernel
theorem dX1_ring_183 : decode cX1_ring 183 = .ok (.astore_n 3, 1) := by decide +kernel
theorem dX1_ring_184 : decode cX1_ring 184 = .ok (.aload_n 3, 1) := by decide +kernel
theorem dX1_ring_185 : decode cX1_ring 185 = .ok (.iload_n 2, 1) := by decide +kernel
theorem dX1_ring_186 : decode cX1_ring 186 = .ok (.iaload, 1) := by decide +kernel
theorem dX1_ring_187 : decode cX1_ring 187 = .ok (.ifCond .ge 6, 3) := by decide +kernel
theorem dX1_ring_190 : decode cX1_ring 190 = .ok (.iload 4, 2) := by decide +kernel
theorem dX1_ring_192 : decode cX1_ring 192 = .ok (.istore_n 1, 1) := by decide +kernel
theorem dX1_ring_193 : decode cX1_ring 193 = .ok (.iinc 4 1, 3) := by decide +kernel
theorem dX1_ring_196 : decode cX1_ring 196 = .ok (.goto (-144), 3) := by decide +kernel
theorem dX1_ring_199 : decode cX1_ring 199 = .ok (.iinc 2 1, 3) := by decide +kernel
theorem dX1_ring_202 : decode cX1_ring 202 = .ok (.goto (-198), 3) := by decide +kernel
theorem dX1_ring_205 : decode cX1_ring 205 = .ok (.iload_n 1, 1) := by decide +kernel
theorem dX1_ring_206 : decode cX1_ring 206 = .ok (.ireturn, 1) := by decide +kernel
set_option maxRecDepth 20000 in
theorem ggX1_isTight_X1_isTied : GoodIn wsX1_isTight wsX1_isTied := goodIn_r _ [5, 6, 7, 8, 4, 9, 10, 15, 16, 17, 18] (by decide +kernel) (by decide +kernel)
set_option maxRecDepth 20000 in
theorem gX1_isTight_X1_isTied : GoodIn wsX1_isTight (wsV RX1 31 RX1 yX1_isTied wsX1_isTied) := goodIn_app (goodIn_of _ (by decide +kernel)) ggX1_isTight_X1_isTied
set_option maxRecDepth 20000 in
theorem ggX1_isTight_X1_isFound : GoodIn wsX1_isTight wsX1_isFound := goodIn_r _ [14] (by decide +kernel) (by decide +kernel)
set_option maxRecDepth 20000 in
theorem gX1_isTight_X1_isFound : GoodIn wsX1_isTight (wsV RX1 39 RX1 yX1_isFound wsX1_isFound) := goodIn_app (goodIn_of _ (by decide +kernel)) ggX1_isTight_X1_isFound
set_option maxRecDepth 20000 in
theorem ggX1_isTight_X1_ro : GoodIn wsX1_isTight wsX1_ro := goodIn_r _ [9, 10, 15, 16, 17, 18] (by decide +kernel) (by decide +kernel)
set_option maxRecDepth 20000 in
theorem gX1_isTight_X1_ro : GoodIn wsX1_isTight (wsV RX1 27 RX1 yX1_ro wsX1_ro) := goodIn_app (goodIn_of _ (by decide +kernel)) ggX1_isTight_X1_ro
theorem dX1_isTight_0 : decode cX1_isTight 0 = .ok (.aload_n 0, 1) := by decide +kernel
theorem dX1_isTight_1 : decode cX1_isTight 1 = .ok (.iload_n 1, 1) := by decide +kernel
theorem dX1_isTight_2 : decode cX1_isTight 2 = .ok (.invokevirtual 31, 3) := by decide +kernel
theorem dX1_isTight_5 : decode cX1_isTight 5 = .ok (.ifCond .eq 41, 3) := by decide +kernel
theorem dX1_isTight_8 : decode cX1_isTight 8 = .ok (.aload_n 0, 1) := by decide +kernel
theorem dX1_isTight_9 : decode cX1_isTight 9 = .ok (.aload_n 2, 1) := by decide +kernel
theorem dX1_isTight_10 : decode cX1_isTight 10 = .ok (.invokevirtual 39, 3) := by decide +kernel
theorem dX1_isTight_13 : decode cX1_isTight 13 = .ok (.ifCond .eq 33, 3) := by decide +kernel
theorem dX1_isTight_16 : decode cX1_isTight 16 = .ok (.aload_n 2, 1) := by decide +kernel
theorem dX1_isTight_17 : decode cX1_isTight 17 = .ok (.aload_n 0, 1) := by decide +kernel
theorem dX1_isTight_18 : decode cX1_isTight 18 = .ok (.iload_n 1, 1) := by decide +kernel
theorem dX1_isTight_19 : decode cX1_isTight 19 = .ok (.iconst 1, 1) := by decide +kernel
theorem dX1_isTight_20 : decode cX1_isTight 20 = .ok (.invokevirtual 27, 3) := by decide +kernel
theorem dX1_isTight_23 : decode cX1_isTight 23 = .ok (.iaload, 1) := by decide +kernel
theorem dX1_isTight_24 : decode cX1_isTight 24 = .ok (.aload_n 2, 1) := by decide +kernel
theorem dX1_isTight_25 : decode cX1_isTight 25 = .ok (.aload_n 0, 1) := by decide +kernel
theorem dX1_isTight_26 : decode cX1_isTight 26 = .ok (.iload_n 1, 1) := by decide +kernel
theorem dX1_isTight_27 : decode cX1_isTight 27 = .ok (.iconst 0, 1) := by decide +kernel
theorem dX1_isTight_28 : decode cX1_isTight 28 = .ok (.invokevirtual 27, 3) := by decide +kernel
theorem dX1_isTight_31 : decode cX1_isTight 31 = .ok (.iaload, 1) := by decide +kernel
theorem dX1_isTight_32 : decode cX1_isTight 32 = .ok (.aload_n 0, 1) := by decide +kernel
theorem dX1_isTight_33 : decode cX1_isTight 33 = .ok (.iload_n 1, 1) := by decide +kernel
theorem dX1_isTight_34 : decode cX1_isTight 34 = .ok (.iconst 2, 1) := by decide +kernel
theorem dX1_isTight_35 : decode cX1_isTight 35 = .ok (.invokevirtual 27, 3) := by decide +kernel
theorem dX1_isTight_38 : decode cX1_isTight 38 = .ok (.iadd, 1) := by decide +kernel
theorem dX1_isTight_39 : decode cX1_isTight 39 = .ok (.if_icmp .ne 7, 3) := by decide +kernel
theorem dX1_isTight_42 : decode cX1_isTight 42 = .ok (.iconst 1, 1) := by decide +kernel
theorem dX1_isTight_43 : decode cX1_isTight 43 = .ok (.goto 4, 3) := by decide +kernel
theorem dX1_isTight_46 : decode cX1_isTight 46 = .ok (.iconst 0, 1) := by decide +kernel
theorem dX1_isTight_47 : decode cX1_isTight 47 = .ok (.ireturn, 1) := by decide +kernel
set_option maxRecDepth 20000 in
theorem ggX1_shortest_X1_ways : GoodIn wsX1_shortest wsX1_ways := goodIn_r _ [10, 11, 12, 1, 13, 14, 15, 4, 16, 17, 18, 19, 20, 9, 21, 22, 23, 24, 25, 26, 27, 28, 29, 30] (by decide +kernel) (by decide +kernel)
set_option maxRecDepth 20000 in
theorem gX1_shortest_X1_ways : GoodIn wsX1_shortest (wsV RX1 54 RX1 yX1_ways wsX1_ways) := goodIn_app (goodIn_of _ (by decide +kernel)) ggX1_shortest_X1_ways
set_option maxRecDepth 20000 in
theorem ggX1_shortest_X1_ro : GoodIn wsX1_shortest wsX1_ro := goodIn_r _ [25, 26, 27, 28, 29, 30] (by decide +kernel) (by decide +kernel)
set_option maxRecDepth 20000 in
theorem gX1_shortest_X1_ro : GoodIn wsX1_shortest (wsV RX1 27 RX1 yX1_ro wsX1_ro) := goodIn_app (goodIn_of _ (by decide +kernel)) ggX1_shortest_X1_ro
theorem dX1_shortest_0 : decode cX1_shortest 0 = .ok (.aload_n 0, 1) := by decide +kernel
theorem dX1_shortest_1 : decode cX1_shortest 1 = .ok (.invokevirtual 54, 3) := by decide +kernel
theorem dX1_shortest_4 : decode cX1_shortest 4 = .ok (.aload_n 0, 1) := by decide +kernel
theorem dX1_shortest_5 : decode cX1_shortest 5 = .ok (.iload_n 1, 1) := by decide +kernel
theorem dX1_shortest_6 : decode cX1_shortest 6 = .ok (.iconst 1, 1) := by decide +kernel
theorem dX1_shortest_7 : decode cX1_shortest 7 = .ok (.invokevirtual 27, 3) := by decide +kernel
theorem dX1_shortest_10 : decode cX1_shortest 10 = .ok (.aaload, 1) := by decide +kernel
theorem dX1_shortest_11 : decode cX1_shortest 11 = .ok (.aload_n 0, 1) := by decide +kernel
theorem dX1_shortest_12 : decode cX1_shortest 12 = .ok (.iload_n 1, 1) := by decide +kernel
theorem dX1_shortest_13 : decode cX1_shortest 13 = .ok (.iconst 0, 1) := by decide +kernel
theorem dX1_shortest_14 : decode cX1_shortest 14 = .ok (.invokevirtual 27, 3) := by decide +kernel
theorem dX1_shortest_17 : decode cX1_shortest 17 = .ok (.iaload, 1) := by decide +kernel
theorem dX1_shortest_18 : decode cX1_shortest 18 = .ok (.istore_n 2, 1) := by decide +kernel
theorem dX1_shortest_19 : decode cX1_shortest 19 = .ok (.iload_n 2, 1) := by decide +kernel
theorem dX1_shortest_20 : decode cX1_shortest 20 = .ok (.ldc 50, 2) := by decide +kernel
theorem dX1_shortest_22 : decode cX1_shortest 22 = .ok (.if_icmp .ne 8, 3) := by decide +kernel
theorem dX1_shortest_25 : decode cX1_shortest 25 = .ok (.bipush (-99), 2) := by decide +kernel
theorem dX1_shortest_27 : decode cX1_shortest 27 = .ok (.goto 10, 3) := by decide +kernel
theorem dX1_shortest_30 : decode cX1_shortest 30 = .ok (.bipush (-99), 2) := by decide +kernel
theorem dX1_shortest_32 : decode cX1_shortest 32 = .ok (.iload_n 2, 1) := by decide +kernel
theorem dX1_shortest_33 : decode cX1_shortest 33 = .ok (.ineg, 1) := by decide +kernel
theorem dX1_shortest_34 : decode cX1_shortest 34 = .ok (.invokestatic 43, 3) := by decide +kernel
theorem dX1_shortest_37 : decode cX1_shortest 37 = .ok (.ireturn, 1) := by decide +kernel
set_option maxRecDepth 20000 in
theorem ggX1_turn_X1_fail : GoodIn wsX1_turn wsX1_fail := goodIn_r _ [7, 1, 8, 9, 10, 11] (by decide +kernel) (by decide +kernel)
set_option maxRecDepth 20000 in
theorem gX1_turn_X1_fail : GoodIn wsX1_turn (wsV RX1 58 RX1 yX1_fail wsX1_fail) := goodIn_app (goodIn_of _ (by decide +kernel)) ggX1_turn_X1_fail
theorem dX1_turn_0 : decode cX1_turn 0 = .ok (.aload_n 0, 1) := by decide +kernel
theorem dX1_turn_1 : decode cX1_turn 1 = .ok (.iconst 0, 1) := by decide +kernel
theorem dX1_turn_2 : decode cX1_turn 2 = .ok (.putfield 13, 3) := by decide +kernel
theorem dX1_turn_5 : decode cX1_turn 5 = .ok (.aload_n 0, 1) := by decide +kernel
theorem dX1_turn_6 : decode cX1_turn 6 = .ok (.getfield 17, 3) := by decide +kernel
theorem dX1_turn_9 : decode cX1_turn 9 = .ok (.bipush 12, 2) := by decide +kernel
theorem dX1_turn_11 : decode cX1_turn 11 = .ok (.if_icmp .ne 9, 3) := by decide +kernel
theorem dX1_turn_14 : decode cX1_turn 14 = .ok (.aload_n 0, 1) := by decide +kernel
theorem dX1_turn_15 : decode cX1_turn 15 = .ok (.iconst 1, 1) := by decide +kernel
theorem dX1_turn_16 : decode cX1_turn 16 = .ok (.invokevirtual 58, 3) := by decide +kernel
theorem dX1_turn_19 : decode cX1_turn 19 = .ok (.ireturn, 1) := by decide +kernel
theorem dX1_turn_20 : decode cX1_turn 20 = .ok (.aload_n 0, 1) := by decide +kernel
theorem dX1_turn_21 : decode cX1_turn 21 = .ok (.dup, 1) := by decide +kernel
theorem dX1_turn_22 : decode cX1_turn 22 = .ok (.getfield 17, 3) := by decide +kernel
theorem dX1_turn_25 : decode cX1_turn 25 = .ok (.iconst 1, 1) := by decide +kernel
theorem dX1_turn_26 : decode cX1_turn 26 = .ok (.iadd, 1) := by decide +kernel
theorem dX1_turn_27 : decode cX1_turn 27 = .ok (.putfield 17, 3) := by decide +kernel
theorem dX1_turn_30 : decode cX1_turn 30 = .ok (.aload_n 0, 1) := by decide +kernel
theorem dX1_turn_31 : decode cX1_turn 31 = .ok (.getfield 17, 3) := by decide +kernel
theorem dX1_turn_34 : decode cX1_turn 34 = .ok (.iconst 1, 1) := by decide +kernel
theorem dX1_turn_35 : decode cX1_turn 35 = .ok (.isub, 1) := by decide +kernel
theorem dX1_turn_36 : decode cX1_turn 36 = .ok (.ireturn, 1) := by decide +kernel
set_option maxRecDepth 20000 in
theorem ggX1_tie_X1_isTurn : GoodIn wsX1_tie wsX1_isTurn := goodIn_r _ [13, 14, 15, 16, 12, 17, 25, 26, 27, 28] (by decide +kernel) (by decide +kernel)
set_option maxRecDepth 20000 in
theorem gX1_tie_X1_isTurn : GoodIn wsX1_tie (wsV RX1 62 RX1 yX1_isTurn wsX1_isTurn) := goodIn_app (goodIn_of _ (by decide +kernel)) ggX1_tie_X1_isTurn
set_option maxRecDepth 20000 in
theorem ggX1_tie_X1_fail : GoodIn wsX1_tie wsX1_fail := goodIn_r _ [21, 1, 25, 26, 27, 28] (by decide +kernel) (by decide +kernel)
set_option maxRecDepth 20000 in
theorem gX1_tie_X1_fail : GoodIn wsX1_tie (wsV RX1 58 RX1 yX1_fail wsX1_fail) := goodIn_app (goodIn_of _ (by decide +kernel)) ggX1_tie_X1_fail
set_option maxRecDepth 20000 in
theorem ggX1_tie_X1_isLong : GoodIn wsX1_tie wsX1_isLong := goodIn_r _ [24, 15, 16, 12, 17] (by decide +kernel) (by decide +kernel)
set_option maxRecDepth 20000 in
theorem gX1_tie_X1_isLong : GoodIn wsX1_tie (va_wsS RX1 65 yX1_isLong wsX1_isLong) := goodIn_app (goodIn_of _ (by decide +kernel)) ggX1_tie_X1_isLong
theorem dX1_tie_0 : decode cX1_tie 0 = .ok (.aload_n 0, 1) := by decide +kernel
theorem dX1_tie_1 : decode cX1_tie 1 = .ok (.iconst 0, 1) := by decide +kernel
theorem dX1_tie_2 : decode cX1_tie 2 = .ok (.putfield 13, 3) := by decide +kernel
theorem dX1_tie_5 : decode cX1_tie 5 = .ok (.aload_n 0, 1) := by decide +kernel
theorem dX1_tie_6 : decode cX1_tie 6 = .ok (.iload_n 1, 1) := by decide +kernel
theorem dX1_tie_7 : decode cX1_tie 7 = .ok (.invokevirtual 62, 3) := by decide +kernel
theorem dX1_tie_10 : decode cX1_tie 10 = .ok (.ifCond .eq 11, 3) := by decide +kernel
theorem dX1_tie_13 : decode cX1_tie 13 = .ok (.aload_n 0, 1) := by decide +kernel
theorem dX1_tie_14 : decode cX1_tie 14 = .ok (.iload_n 2, 1) := by decide +kernel
theorem dX1_tie_15 : decode cX1_tie 15 = .ok (.invokevirtual 62, 3) := by decide +kernel
theorem dX1_tie_18 : decode cX1_tie 18 = .ok (.ifCond .ne 9, 3) := by decide +kernel
theorem dX1_tie_21 : decode cX1_tie 21 = .ok (.aload_n 0, 1) := by decide +kernel
theorem dX1_tie_22 : decode cX1_tie 22 = .ok (.iconst 1, 1) := by decide +kernel
theorem dX1_tie_23 : decode cX1_tie 23 = .ok (.invokevirtual 58, 3) := by decide +kernel
theorem dX1_tie_26 : decode cX1_tie 26 = .ok (.ireturn, 1) := by decide +kernel
theorem dX1_tie_27 : decode cX1_tie 27 = .ok (.iload_n 1, 1) := by decide +kernel
theorem dX1_tie_28 : decode cX1_tie 28 = .ok (.iload_n 2, 1) := by decide +kernel
theorem dX1_tie_29 : decode cX1_tie 29 = .ok (.if_icmp .eq 10, 3) := by decide +kernel
theorem dX1_tie_32 : decode cX1_tie 32 = .ok (.iload_n 3, 1) := by decide +kernel
theorem dX1_tie_33 : decode cX1_tie 33 = .ok (.invokestatic 65, 3) := by decide +kernel
theorem dX1_tie_36 : decode cX1_tie 36 = .ok (.ifCond .ne 9, 3) := by decide +kernel
theorem dX1_tie_39 : decode cX1_tie 39 = .ok (.aload_n 0, 1) := by decide +kernel
theorem dX1_tie_40 : decode cX1_tie 40 = .ok (.iconst 2, 1) := by decide +kernel
theorem dX1_tie_41 : decode cX1_tie 41 = .ok (.invokevirtual 58, 3) := by decide +kernel
theorem dX1_tie_44 : decode cX1_tie 44 = .ok (.ireturn, 1) := by decide +kernel
theorem dX1_tie_45 : decode cX1_tie 45 = .ok (.aload_n 0, 1) := by decide +kernel
theorem dX1_tie_46 : decode cX1_tie 46 = .ok (.getfield 24, 3) := by decide +kernel
theorem dX1_tie_49 : decode cX1_tie 49 = .ok (.bipush 30, 2) := by decide +kernel
theorem dX1_tie_51 : decode cX1_tie 51 = .ok (.if_icmp .ne 9, 3) := by decide +kernel
theorem dX1_tie_54 : decode cX1_tie 54 = .ok (.aload_n 0, 1) := by decide +kernel
theorem dX1_tie_55 : decode cX1_tie 55 = .ok (.iconst 3, 1) := by decide +kernel
theorem dX1_tie_56 : decode cX1_tie 56 = .ok (.invokevirtual 58, 3) := by decide +kernel
theorem dX1_tie_59 : decode cX1_tie 59 = .ok (.ireturn, 1) := by decide +kernel
theorem dX1_tie_60 : decode cX1_tie 60 = .ok (.iconst 4, 1) := by decide +kernel
theorem dX1_tie_61 : decode cX1_tie 61 = .ok (.newarray .int, 2) := by decide +kernel
theorem dX1_tie_63 : decode cX1_tie 63 = .ok (.dup, 1) := by decide +kernel
theorem dX1_tie_64 : decode cX1_tie 64 = .ok (.iconst 0, 1) := by decide +kernel
theorem dX1_tie_65 : decode cX1_tie 65 = .ok (.iload_n 1, 1) := by decide +kernel
theorem dX1_tie_66 : decode cX1_tie 66 = .ok (.iastore, 1) := by decide +kernel
theorem dX1_tie_67 : decode cX1_tie 67 = .ok (.dup, 1) := by decide +kernel
theorem dX1_tie_68 : decode cX1_tie 68 = .ok (.iconst 1, 1) := by decide +kernel
theorem dX1_tie_69 : decode cX1_tie 69 = .ok (.iload_n 2, 1) := by decide +kernel
theorem dX1_tie_70 : decode cX1_tie 70 = .ok (.iastore, 1) := by decide +kernel
theorem dX1_tie_71 : decode cX1_tie 71 = .ok (.dup, 1) := by decide +kernel
theorem dX1_tie_72 : decode cX1_tie 72 = .ok (.iconst 2, 1) := by decide +kernel
theorem dX1_tie_73 : decode cX1_tie 73 = .ok (.iload_n 3, 1) := by decide +kernel
theorem dX1_tie_74 : decode cX1_tie 74 = .ok (.iastore, 1) := by decide +kernel
theorem dX1_tie_75 : decode cX1_tie 75 = .ok (.dup, 1) := by decide +kernel
theorem dX1_tie_76 : decode cX1_tie 76 = .ok (.iconst 3, 1) := by decide +kernel
theorem dX1_tie_77 : decode cX1_tie 77 = .ok (.iconst 1, 1) := by decide +kernel
theorem dX1_tie_78 : decode cX1_tie 78 = .ok (.iastore, 1) := by decide +kernel
theorem dX1_tie_79 : decode cX1_tie 79 = .ok (.astore 4, 2) := by decide +kernel
theorem dX1_tie_81 : decode cX1_tie 81 = .ok (.aload 4, 2) := by decide +kernel
theorem dX1_tie_83 : decode cX1_tie 83 = .ok (.iconst 0, 1) := by decide +kernel
theorem dX1_tie_84 : decode cX1_tie 84 = .ok (.aload_n 0, 1) := by decide +kernel
theorem dX1_tie_85 : decode cX1_tie 85 = .ok (.getfield 9, 3) := by decide +kernel
theorem dX1_tie_88 : decode cX1_tie 88 = .ok (.iconst 4, 1) := by decide +kernel
theorem dX1_tie_89 : decode cX1_tie 89 = .ok (.aload_n 0, 1) := by decide +kernel
theorem dX1_tie_90 : decode cX1_tie 90 = .ok (.getfield 24, 3) := by decide +kernel
theorem dX1_tie_93 : decode cX1_tie 93 = .ok (.imul, 1) := by decide +kernel
theorem dX1_tie_94 : decode cX1_tie 94 = .ok (.iconst 4, 1) := by decide +kernel
theorem dX1_tie_95 : decode cX1_tie 95 = .ok (.invokestatic 68, 3) := by decide +kernel
theorem dX1_tie_98 : decode cX1_tie 98 = .ok (.aload_n 0, 1) := by decide +kernel
theorem dX1_tie_99 : decode cX1_tie 99 = .ok (.dup, 1) := by decide +kernel
theorem dX1_tie_100 : decode cX1_tie 100 = .ok (.getfield 24, 3) := by decide +kernel
theorem dX1_tie_103 : decode cX1_tie 103 = .ok (.iconst 1, 1) := by decide +kernel
theorem dX1_tie_104 : decode cX1_tie 104 = .ok (.iadd, 1) := by decide +kernel
theorem dX1_tie_105 : decode cX1_tie 105 = .ok (.putfield 24, 3) := by decide +kernel
theorem dX1_tie_108 : decode cX1_tie 108 = .ok (.aload_n 0, 1) := by decide +kernel
theorem dX1_tie_109 : decode cX1_tie 109 = .ok (.getfield 24, 3) := by decide +kernel
theorem dX1_tie_112 : decode cX1_tie 112 = .ok (.iconst 1, 1) := by decide +kernel
theorem dX1_tie_113 : decode cX1_tie 113 = .ok (.isub, 1) := by decide +kernel
theorem dX1_tie_114 : decode cX1_tie 114 = .ok (.ireturn, 1) := by decide +kernel
set_option maxRecDepth 20000 in
theorem ggX1_cut_X1_isRope : GoodIn wsX1_cut wsX1_isRope := goodIn_r _ [7, 8, 9, 10, 6, 11, 23, 24, 25, 26] (by decide +kernel) (by decide +kernel)
set_option maxRecDepth 20000 in
theorem gX1_cut_X1_isRope : GoodIn wsX1_cut (wsV RX1 74 RX1 yX1_isRope wsX1_isRope) := goodIn_app (goodIn_of _ (by decide +kernel)) ggX1_cut_X1_isRope
set_option maxRecDepth 20000 in
theorem ggX1_cut_X1_fail : GoodIn wsX1_cut wsX1_fail := goodIn_r _ [15, 1, 23, 24, 25, 26] (by decide +kernel) (by decide +kernel)
set_option maxRecDepth 20000 in
theorem gX1_cut_X1_fail : GoodIn wsX1_cut (wsV RX1 58 RX1 yX1_fail wsX1_fail) := goodIn_app (goodIn_of _ (by decide +kernel)) ggX1_cut_X1_fail
set_option maxRecDepth 20000 in
theorem ggX1_cut_X1_isLong : GoodIn wsX1_cut wsX1_isLong := goodIn_r _ [18, 9, 10, 6, 11] (by decide +kernel) (by decide +kernel)
set_option maxRecDepth 20000 in
theorem gX1_cut_X1_isLong : GoodIn wsX1_cut (va_wsS RX1 65 yX1_isLong wsX1_isLong) := goodIn_app (goodIn_of _ (by decide +kernel)) ggX1_cut_X1_isLong
set_option maxRecDepth 20000 in
theorem ggX1_cut_X1_ro : GoodIn wsX1_cut wsX1_ro := goodIn_r _ [22, 2, 23, 24, 25, 26] (by decide +kernel) (by decide +kernel)
set_option maxRecDepth 20000 in
theorem gX1_cut_X1_ro : GoodIn wsX1_cut (wsV RX1 27 RX1 yX1_ro wsX1_ro) := goodIn_app (goodIn_of _ (by decide +kernel)) ggX1_cut_X1_ro
theorem dX1_cut_0 : decode cX1_cut 0 = .ok (.aload_n 0, 1) := by decide +kernel
theorem dX1_cut_1 : decode cX1_cut 1 = .ok (.iconst 0, 1) := by decide +kernel
theorem dX1_cut_2 : decode cX1_cut 2 = .ok (.putfield 13, 3) := by decide +kernel
theorem dX1_cut_5 : decode cX1_cut 5 = .ok (.aload_n 0, 1) := by decide +kernel
theorem dX1_cut_6 : decode cX1_cut 6 = .ok (.iload_n 1, 1) := by decide +kernel
theorem dX1_cut_7 : decode cX1_cut 7 = .ok (.invokevirtual 74, 3) := by decide +kernel
theorem dX1_cut_10 : decode cX1_cut 10 = .ok (.ifCond .ne 9, 3) := by decide +kernel
theorem dX1_cut_13 : decode cX1_cut 13 = .ok (.aload_n 0, 1) := by decide +kernel
theorem dX1_cut_14 : decode cX1_cut 14 = .ok (.iconst 1, 1) := by decide +kernel
theorem dX1_cut_15 : decode cX1_cut 15 = .ok (.invokevirtual 58, 3) := by decide +kernel
theorem dX1_cut_18 : decode cX1_cut 18 = .ok (.ireturn, 1) := by decide +kernel
theorem dX1_cut_19 : decode cX1_cut 19 = .ok (.iload_n 2, 1) := by decide +kernel
theorem dX1_cut_20 : decode cX1_cut 20 = .ok (.invokestatic 65, 3) := by decide +kernel
theorem dX1_cut_23 : decode cX1_cut 23 = .ok (.ifCond .ne 9, 3) := by decide +kernel
theorem dX1_cut_26 : decode cX1_cut 26 = .ok (.aload_n 0, 1) := by decide +kernel
theorem dX1_cut_27 : decode cX1_cut 27 = .ok (.iconst 2, 1) := by decide +kernel
theorem dX1_cut_28 : decode cX1_cut 28 = .ok (.invokevirtual 58, 3) := by decide +kernel
theorem dX1_cut_31 : decode cX1_cut 31 = .ok (.ireturn, 1) := by decide +kernel
theorem dX1_cut_32 : decode cX1_cut 32 = .ok (.aload_n 0, 1) := by decide +kernel
theorem dX1_cut_33 : decode cX1_cut 33 = .ok (.iload_n 1, 1) := by decide +kernel
theorem dX1_cut_34 : decode cX1_cut 34 = .ok (.iconst 2, 1) := by decide +kernel
theorem dX1_cut_35 : decode cX1_cut 35 = .ok (.invokevirtual 27, 3) := by decide +kernel
theorem dX1_cut_38 : decode cX1_cut 38 = .ok (.istore_n 3, 1) := by decide +kernel
theorem dX1_cut_39 : decode cX1_cut 39 = .ok (.aload_n 0, 1) := by decide +kernel
theorem dX1_cut_40 : decode cX1_cut 40 = .ok (.getfield 9, 3) := by decide +kernel
theorem dX1_cut_43 : decode cX1_cut 43 = .ok (.iconst 4, 1) := by decide +kernel
theorem dX1_cut_44 : decode cX1_cut 44 = .ok (.iload_n 1, 1) := by decide +kernel
theorem dX1_cut_45 : decode cX1_cut 45 = .ok (.imul, 1) := by decide +kernel
theorem dX1_cut_46 : decode cX1_cut 46 = .ok (.iconst 2, 1) := by decide +kernel
theorem dX1_cut_47 : decode cX1_cut 47 = .ok (.iadd, 1) := by decide +kernel
theorem dX1_cut_48 : decode cX1_cut 48 = .ok (.iload_n 2, 1) := by decide +kernel
theorem dX1_cut_49 : decode cX1_cut 49 = .ok (.iastore, 1) := by decide +kernel
theorem dX1_cut_50 : decode cX1_cut 50 = .ok (.iload_n 3, 1) := by decide +kernel
theorem dX1_cut_51 : decode cX1_cut 51 = .ok (.ireturn, 1) := by decide +kernel
set_option maxRecDepth 20000 in
theorem ggX1_knot_X1_isRope : GoodIn wsX1_knot wsX1_isRope := goodIn_r _ [7, 8, 9, 10, 6, 11, 20, 21, 22, 23] (by decide +kernel) (by decide +kernel)
set_option maxRecDepth 20000 in
theorem gX1_knot_X1_isRope : GoodIn wsX1_knot (wsV RX1 74 RX1 yX1_isRope wsX1_isRope) := goodIn_app (goodIn_of _ (by decide +kernel)) ggX1_knot_X1_isRope
set_option maxRecDepth 20000 in
theorem ggX1_knot_X1_ro : GoodIn wsX1_knot wsX1_ro := goodIn_r _ [15, 2, 20, 21, 22, 23] (by decide +kernel) (by decide +kernel)
set_option maxRecDepth 20000 in
theorem gX1_knot_X1_ro : GoodIn wsX1_knot (wsV RX1 27 RX1 yX1_ro wsX1_ro) := goodIn_app (goodIn_of _ (by decide +kernel)) ggX1_knot_X1_ro
set_option maxRecDepth 20000 in
theorem ggX1_knot_X1_isTied : GoodIn wsX1_knot wsX1_isTied := goodIn_r _ [19, 12, 13, 14, 6, 15, 2, 20, 21, 22, 23] (by decide +kernel) (by decide +kernel)
set_option maxRecDepth 20000 in
theorem gX1_knot_X1_isTied : GoodIn wsX1_knot (wsV RX1 31 RX1 yX1_isTied wsX1_isTied) := goodIn_app (goodIn_of _ (by decide +kernel)) ggX1_knot_X1_isTied
theorem dX1_knot_0 : decode cX1_knot 0 = .ok (.aload_n 0, 1) := by decide +kernel
theorem dX1_knot_1 : decode cX1_knot 1 = .ok (.aload_n 0, 1) := by decide +kernel
theorem dX1_knot_2 : decode cX1_knot 2 = .ok (.iload_n 1, 1) := by decide +kernel
theorem dX1_knot_3 : decode cX1_knot 3 = .ok (.invokevirtual 74, 3) := by decide +kernel
theorem dX1_knot_6 : decode cX1_knot 6 = .ok (.ifCond .eq 7, 3) := by decide +kernel
theorem dX1_knot_9 : decode cX1_knot 9 = .ok (.iconst 0, 1) := by decide +kernel
theorem dX1_knot_10 : decode cX1_knot 10 = .ok (.goto 4, 3) := by decide +kernel
theorem dX1_knot_13 : decode cX1_knot 13 = .ok (.iconst 1, 1) := by decide +kernel
theorem dX1_knot_14 : decode cX1_knot 14 = .ok (.putfield 13, 3) := by decide +kernel
theorem dX1_knot_17 : decode cX1_knot 17 = .ok (.aload_n 0, 1) := by decide +kernel
theorem dX1_knot_18 : decode cX1_knot 18 = .ok (.getfield 13, 3) := by decide +kernel
theorem dX1_knot_21 : decode cX1_knot 21 = .ok (.ifCond .eq 5, 3) := by decide +kernel
theorem dX1_knot_24 : decode cX1_knot 24 = .ok (.iconst 0, 1) := by decide +kernel
theorem dX1_knot_25 : decode cX1_knot 25 = .ok (.ireturn, 1) := by decide +kernel
theorem dX1_knot_26 : decode cX1_knot 26 = .ok (.aload_n 0, 1) := by decide +kernel
theorem dX1_knot_27 : decode cX1_knot 27 = .ok (.getfield 9, 3) := by decide +kernel
theorem dX1_knot_30 : decode cX1_knot 30 = .ok (.iconst 4, 1) := by decide +kernel
theorem dX1_knot_31 : decode cX1_knot 31 = .ok (.iload_n 1, 1) := by decide +kernel
theorem dX1_knot_32 : decode cX1_knot 32 = .ok (.imul, 1) := by decide +kernel
theorem dX1_knot_33 : decode cX1_knot 33 = .ok (.iconst 3, 1) := by decide +kernel
theorem dX1_knot_34 : decode cX1_knot 34 = .ok (.iadd, 1) := by decide +kernel
theorem dX1_knot_35 : decode cX1_knot 35 = .ok (.iconst 1, 1) := by decide +kernel
theorem dX1_knot_36 : decode cX1_knot 36 = .ok (.aload_n 0, 1) := by decide +kernel
theorem dX1_knot_37 : decode cX1_knot 37 = .ok (.iload_n 1, 1) := by decide +kernel
theorem dX1_knot_38 : decode cX1_knot 38 = .ok (.iconst 3, 1) := by decide +kernel
theorem dX1_knot_39 : decode cX1_knot 39 = .ok (.invokevirtual 27, 3) := by decide +kernel
theorem dX1_knot_42 : decode cX1_knot 42 = .ok (.isub, 1) := by decide +kernel
theorem dX1_knot_43 : decode cX1_knot 43 = .ok (.iastore, 1) := by decide +kernel
theorem dX1_knot_44 : decode cX1_knot 44 = .ok (.aload_n 0, 1) := by decide +kernel
theorem dX1_knot_45 : decode cX1_knot 45 = .ok (.iload_n 1, 1) := by decide +kernel
theorem dX1_knot_46 : decode cX1_knot 46 = .ok (.invokevirtual 31, 3) := by decide +kernel
theorem dX1_knot_49 : decode cX1_knot 49 = .ok (.ireturn, 1) := by decide +kernel
set_option maxRecDepth 20000 in
theorem ggX1_tighten_X1_isHeld : GoodIn wsX1_tighten wsX1_isHeld := goodIn_r _ [8, 9, 10, 11, 7, 12, 13, 14, 2, 15, 16, 17, 18, 3, 19, 20, 21, 22, 23, 24, 25, 26, 44, 45, 46, 47] (by decide +kernel) (by decide +kernel)
set_option maxRecDepth 20000 in
theorem gX1_tighten_X1_isHeld : GoodIn wsX1_tighten (wsV RX1 77 RX1 yX1_isHeld wsX1_isHeld) := goodIn_app (goodIn_of _ (by decide +kernel)) ggX1_tighten_X1_isHeld
set_option maxRecDepth 20000 in
theorem ggX1_tighten_X1_isTied : GoodIn wsX1_tighten wsX1_isTied := goodIn_r _ [22, 15, 16, 17, 7, 18, 3, 44, 45, 46, 47] (by decide +kernel) (by decide +kernel)
set_option maxRecDepth 20000 in
theorem gX1_tighten_X1_isTied : GoodIn wsX1_tighten (wsV RX1 31 RX1 yX1_isTied wsX1_isTied) := goodIn_app (goodIn_of _ (by decide +kernel)) ggX1_tighten_X1_isTied
set_option maxRecDepth 20000 in
theorem ggX1_tighten_X1_shortest : GoodIn wsX1_tighten wsX1_shortest := goodIn_r _ [30, 31, 32, 33, 34, 35, 36, 37, 38, 7, 39, 40, 13, 2, 41, 42, 43, 14, 19, 20, 21, 22, 15, 16, 17, 18, 3, 44, 45, 46, 47] (by decide +kernel) (by decide +kernel)
set_option maxRecDepth 20000 in
theorem gX1_tighten_X1_shortest : GoodIn wsX1_tighten (wsV RX1 81 RX1 yX1_shortest wsX1_shortest) := goodIn_app (goodIn_of _ (by decide +kernel)) ggX1_tighten_X1_shortest
set_option maxRecDepth 20000 in
theorem ggX1_tighten_X1_ro : GoodIn wsX1_tighten wsX1_ro := goodIn_r _ [18, 3, 44, 45, 46, 47] (by decide +kernel) (by decide +kernel)
set_option maxRecDepth 20000 in
theorem gX1_tighten_X1_ro : GoodIn wsX1_tighten (wsV RX1 27 RX1 yX1_ro wsX1_ro) := goodIn_app (goodIn_of _ (by decide +kernel)) ggX1_tighten_X1_ro
theorem dX1_tighten_0 : decode cX1_tighten 0 = .ok (.aload_n 0, 1) := by decide +kernel
theorem dX1_tighten_1 : decode cX1_tighten 1 = .ok (.iconst 0, 1) := by decide +kernel
theorem dX1_tighten_2 : decode cX1_tighten 2 = .ok (.putfield 13, 3) := by decide +kernel
theorem dX1_tighten_5 : decode cX1_tighten 5 = .ok (.aload_n 0, 1) := by decide +kernel
theorem dX1_tighten_6 : decode cX1_tighten 6 = .ok (.invokevirtual 77, 3) := by decide +kernel
theorem dX1_tighten_9 : decode cX1_tighten 9 = .ok (.ifCond .ne 5, 3) := by decide +kernel
theorem dX1_tighten_12 : decode cX1_tighten 12 = .ok (.iconst 0, 1) := by decide +kernel
theorem dX1_tighten_13 : decode cX1_tighten 13 = .ok (.ireturn, 1) := by decide +kernel
theorem dX1_tighten_14 : decode cX1_tighten 14 = .ok (.iconst 0, 1) := by decide +kernel
theorem dX1_tighten_15 : decode cX1_tighten 15 = .ok (.istore_n 1, 1) := by decide +kernel
theorem dX1_tighten_16 : decode cX1_tighten 16 = .ok (.iconst 0, 1) := by decide +kernel
theorem dX1_tighten_17 : decode cX1_tighten 17 = .ok (.istore_n 2, 1) := by decide +kernel
theorem dX1_tighten_18 : decode cX1_tighten 18 = .ok (.iload_n 2, 1) := by decide +kernel
theorem dX1_tighten_19 : decode cX1_tighten 19 = .ok (.aload_n 0, 1) := by decide +kernel
theorem dX1_tighten_20 : decode cX1_tighten 20 = .ok (.getfield 24, 3) := by decide +kernel
theorem dX1_tighten_23 : decode cX1_tighten 23 = .ok (.if_icmp .ge 48, 3) := by decide +kernel
theorem dX1_tighten_26 : decode cX1_tighten 26 = .ok (.aload_n 0, 1) := by decide +kernel
theorem dX1_tighten_27 : decode cX1_tighten 27 = .ok (.iload_n 2, 1) := by decide +kernel
theorem dX1_tighten_28 : decode cX1_tighten 28 = .ok (.invokevirtual 31, 3) := by decide +kernel
theorem dX1_tighten_31 : decode cX1_tighten 31 = .ok (.ifCond .ne 6, 3) := by decide +kernel
theorem dX1_tighten_34 : decode cX1_tighten 34 = .ok (.goto 31, 3) := by decide +kernel
theorem dX1_tighten_37 : decode cX1_tighten 37 = .ok (.aload_n 0, 1) := by decide +kernel
theorem dX1_tighten_38 : decode cX1_tighten 38 = .ok (.iload_n 2, 1) := by decide +kernel
theorem dX1_tighten_39 : decode cX1_tighten 39 = .ok (.invokevirtual 81, 3) := by decide +kernel
theorem dX1_tighten_42 : decode cX1_tighten 42 = .ok (.istore_n 3, 1) := by decide +kernel
theorem dX1_tighten_43 : decode cX1_tighten 43 = .ok (.iload_n 1, 1) := by decide +kernel
theorem dX1_tighten_44 : decode cX1_tighten 44 = .ok (.aload_n 0, 1) := by decide +kernel
theorem dX1_tighten_45 : decode cX1_tighten 45 = .ok (.iload_n 2, 1) := by decide +kernel
theorem dX1_tighten_46 : decode cX1_tighten 46 = .ok (.iconst 2, 1) := by decide +kernel
theorem dX1_tighten_47 : decode cX1_tighten 47 = .ok (.invokevirtual 27, 3) := by decide +kernel
theorem dX1_tighten_50 : decode cX1_tighten 50 = .ok (.iload_n 3, 1) := by decide +kernel
theorem dX1_tighten_51 : decode cX1_tighten 51 = .ok (.isub, 1) := by decide +kernel
theorem dX1_tighten_52 : decode cX1_tighten 52 = .ok (.iadd, 1) := by decide +kernel
theorem dX1_tighten_53 : decode cX1_tighten 53 = .ok (.istore_n 1, 1) := by decide +kernel
theorem dX1_tighten_54 : decode cX1_tighten 54 = .ok (.aload_n 0, 1) := by decide +kernel
theorem dX1_tighten_55 : decode cX1_tighten 55 = .ok (.getfield 9, 3) := by decide +kernel
theorem dX1_tighten_58 : decode cX1_tighten 58 = .ok (.iconst 4, 1) := by decide +kernel
theorem dX1_tighten_59 : decode cX1_tighten 59 = .ok (.iload_n 2, 1) := by decide +kernel
theorem dX1_tighten_60 : decode cX1_tighten 60 = .ok (.imul, 1) := by decide +kernel
theorem dX1_tighten_61 : decode cX1_tighten 61 = .ok (.iconst 2, 1) := by decide +kernel
theorem dX1_tighten_62 : decode cX1_tighten 62 = .ok (.iadd, 1) := by decide +kernel
theorem dX1_tighten_63 : decode cX1_tighten 63 = .ok (.iload_n 3, 1) := by decide +kernel
theorem dX1_tighten_64 : decode cX1_tighten 64 = .ok (.iastore, 1) := by decide +kernel
theorem dX1_tighten_65 : decode cX1_tighten 65 = .ok (.iinc 2 1, 3) := by decide +kernel
theorem dX1_tighten_68 : decode cX1_tighten 68 = .ok (.goto (-50), 3) := by decide +kernel
theorem dX1_tighten_71 : decode cX1_tighten 71 = .ok (.iload_n 1, 1) := by decide +kernel
theorem dX1_tighten_72 : decode cX1_tighten 72 = .ok (.ireturn, 1) := by decide +kernel
set_option maxRecDepth 20000 in
theorem ggX1_ropeTold_X1_ro : GoodIn wsX1_ropeTold wsX1_ro := goodIn_r _ [5, 6, 19, 20, 21, 22] (by decide +kernel) (by decide +kernel)
set_option maxRecDepth 20000 in
theorem gX1_ropeTold_X1_ro : GoodIn wsX1_ropeTold (wsV RX1 27 RX1 yX1_ro wsX1_ro) := goodIn_app (goodIn_of _ (by decide +kernel)) ggX1_ropeTold_X1_ro
set_option maxRecDepth 20000 in
theorem ggX1_ropeTold_X1_isTight : GoodIn wsX1_ropeTold wsX1_isTight := goodIn_r _ [10, 11, 12, 13, 4, 14, 1, 2, 3, 5, 6, 15, 16, 17, 18, 19, 20, 21, 22] (by decide +kernel) (by decide +kernel)
set_option maxRecDepth 20000 in
theorem gX1_ropeTold_X1_isTight : GoodIn wsX1_ropeTold (wsV RX1 84 RX1 yX1_isTight wsX1_isTight) := goodIn_app (goodIn_of _ (by decide +kernel)) ggX1_ropeTold_X1_isTight
theorem dX1_ropeTold_0 : decode cX1_ropeTold 0 = .ok (.iload_n 2, 1) := by decide +kernel
theorem dX1_ropeTold_1 : decode cX1_ropeTold 1 = .ok (.iconst 4, 1) := by decide +kernel
theorem dX1_ropeTold_2 : decode cX1_ropeTold 2 = .ok (.if_icmp .ge 12, 3) := by decide +kernel
theorem dX1_ropeTold_5 : decode cX1_ropeTold 5 = .ok (.aload_n 0, 1) := by decide +kernel
theorem dX1_ropeTold_6 : decode cX1_ropeTold 6 = .ok (.iload_n 1, 1) := by decide +kernel
theorem dX1_ropeTold_7 : decode cX1_ropeTold 7 = .ok (.iload_n 2, 1) := by decide +kernel
theorem dX1_ropeTold_8 : decode cX1_ropeTold 8 = .ok (.invokevirtual 27, 3) := by decide +kernel
theorem dX1_ropeTold_11 : decode cX1_ropeTold 11 = .ok (.goto 17, 3) := by decide +kernel
theorem dX1_ropeTold_14 : decode cX1_ropeTold 14 = .ok (.aload_n 0, 1) := by decide +kernel
theorem dX1_ropeTold_15 : decode cX1_ropeTold 15 = .ok (.iload_n 1, 1) := by decide +kernel
theorem dX1_ropeTold_16 : decode cX1_ropeTold 16 = .ok (.aload_n 3, 1) := by decide +kernel
theorem dX1_ropeTold_17 : decode cX1_ropeTold 17 = .ok (.invokevirtual 84, 3) := by decide +kernel
theorem dX1_ropeTold_20 : decode cX1_ropeTold 20 = .ok (.ifCond .eq 7, 3) := by decide +kernel
theorem dX1_ropeTold_23 : decode cX1_ropeTold 23 = .ok (.iconst 1, 1) := by decide +kernel
theorem dX1_ropeTold_24 : decode cX1_ropeTold 24 = .ok (.goto 4, 3) := by decide +kernel
theorem dX1_ropeTold_27 : decode cX1_ropeTold 27 = .ok (.iconst 0, 1) := by decide +kernel
theorem dX1_ropeTold_28 : decode cX1_ropeTold 28 = .ok (.ireturn, 1) := by decide +kernel
set_option maxRecDepth 20000 in
theorem ggX1_told_X1_isRope : GoodIn wsX1_told wsX1_isRope := goodIn_r _ [6, 7, 8, 9, 5, 10, 42, 43, 44, 45] (by decide +kernel) (by decide +kernel)
set_option maxRecDepth 20000 in
theorem gX1_told_X1_isRope : GoodIn wsX1_told (wsV RX1 74 RX1 yX1_isRope wsX1_isRope) := goodIn_app (goodIn_of _ (by decide +kernel)) ggX1_told_X1_isRope
set_option maxRecDepth 20000 in
theorem ggX1_told_X1_isIn : GoodIn wsX1_told wsX1_isIn := goodIn_r _ [10] (by decide +kernel) (by decide +kernel)
set_option maxRecDepth 20000 in
theorem gX1_told_X1_isIn : GoodIn wsX1_told (va_wsS RX1 20 yX1_isIn wsX1_isIn) := goodIn_app (goodIn_of _ (by decide +kernel)) ggX1_told_X1_isIn
set_option maxRecDepth 20000 in
theorem ggX1_told_X1_earliest : GoodIn wsX1_told wsX1_earliest := goodIn_r _ [14, 15, 16, 7, 17, 18, 19, 5, 20, 21, 22, 23, 24, 25, 42, 43, 44, 45] (by decide +kernel) (by decide +kernel)
set_option maxRecDepth 20000 in
theorem gX1_told_X1_earliest : GoodIn wsX1_told (wsV RX1 35 RX1 yX1_earliest wsX1_earliest) := goodIn_app (goodIn_of _ (by decide +kernel)) ggX1_told_X1_earliest
set_option maxRecDepth 20000 in
theorem ggX1_told_X1_ropeTold : GoodIn wsX1_told wsX1_ropeTold := goodIn_r _ [29, 17, 18, 19, 5, 20, 21, 30, 31, 32, 33, 22, 23, 24, 25, 34, 35, 36, 37, 42, 43, 44, 45] (by decide +kernel) (by decide +kernel)
set_option maxRecDepth 20000 in
theorem gX1_told_X1_ropeTold : GoodIn wsX1_told (wsV RX1 88 RX1 yX1_ropeTold wsX1_ropeTold) := goodIn_app (goodIn_of _ (by decide +kernel)) ggX1_told_X1_ropeTold
set_option maxRecDepth 20000 in
theorem ggX1_told_X1_fail : GoodIn wsX1_told wsX1_fail := goodIn_r _ [41, 1, 42, 43, 44, 45] (by decide +kernel) (by decide +kernel)
set_option maxRecDepth 20000 in
theorem gX1_told_X1_fail : GoodIn wsX1_told (wsV RX1 58 RX1 yX1_fail wsX1_fail) := goodIn_app (goodIn_of _ (by decide +kernel)) ggX1_told_X1_fail
theorem dX1_told_0 : decode cX1_told 0 = .ok (.aload_n 0, 1) := by decide +kernel
theorem dX1_told_1 : decode cX1_told 1 = .ok (.iconst 0, 1) := by decide +kernel
theorem dX1_told_2 : decode cX1_told 2 = .ok (.putfield 13, 3) := by decide +kernel
theorem dX1_told_5 : decode cX1_told 5 = .ok (.aload_n 0, 1) := by decide +kernel
theorem dX1_told_6 : decode cX1_told 6 = .ok (.iload_n 1, 1) := by decide +kernel
theorem dX1_told_7 : decode cX1_told 7 = .ok (.invokevirtual 74, 3) := by decide +kernel
theorem dX1_told_10 : decode cX1_told 10 = .ok (.ifCond .eq 25, 3) := by decide +kernel
theorem dX1_told_13 : decode cX1_told 13 = .ok (.iload_n 2, 1) := by decide +kernel
theorem dX1_told_14 : decode cX1_told 14 = .ok (.iconst 0, 1) := by decide +kernel
theorem dX1_told_15 : decode cX1_told 15 = .ok (.iconst 4, 1) := by decide +kernel
theorem dX1_told_16 : decode cX1_told 16 = .ok (.invokestatic 20, 3) := by decide +kernel
theorem dX1_told_19 : decode cX1_told 19 = .ok (.ifCond .eq 16, 3) := by decide +kernel
theorem dX1_told_22 : decode cX1_told 22 = .ok (.aload_n 0, 1) := by decide +kernel
theorem dX1_told_23 : decode cX1_told 23 = .ok (.iload_n 1, 1) := by decide +kernel
theorem dX1_told_24 : decode cX1_told 24 = .ok (.iload_n 2, 1) := by decide +kernel
theorem dX1_told_25 : decode cX1_told 25 = .ok (.aload_n 0, 1) := by decide +kernel
theorem dX1_told_26 : decode cX1_told 26 = .ok (.invokevirtual 35, 3) := by decide +kernel
theorem dX1_told_29 : decode cX1_told 29 = .ok (.invokevirtual 88, 3) := by decide +kernel
theorem dX1_told_32 : decode cX1_told 32 = .ok (.goto 8, 3) := by decide +kernel
theorem dX1_told_35 : decode cX1_told 35 = .ok (.aload_n 0, 1) := by decide +kernel
theorem dX1_told_36 : decode cX1_told 36 = .ok (.iconst 1, 1) := by decide +kernel
theorem dX1_told_37 : decode cX1_told 37 = .ok (.invokevirtual 58, 3) := by decide +kernel
theorem dX1_told_40 : decode cX1_told 40 = .ok (.ireturn, 1) := by decide +kernel
set_option maxRecDepth 20000 in
theorem ggX1_turnTold_X1_isFound : GoodIn wsX1_turnTold wsX1_isFound := goodIn_r _ [6] (by decide +kernel) (by decide +kernel)
set_option maxRecDepth 20000 in
theorem gX1_turnTold_X1_isFound : GoodIn wsX1_turnTold (wsV RX1 39 RX1 yX1_isFound wsX1_isFound) := goodIn_app (goodIn_of _ (by decide +kernel)) ggX1_turnTold_X1_isFound
set_option maxRecDepth 20000 in
theorem ggX1_turnTold_X1_isTied : GoodIn wsX1_turnTold wsX1_isTied := goodIn_r _ [10, 11, 12, 13, 5, 14, 15, 16, 17, 18, 19] (by decide +kernel) (by decide +kernel)
set_option maxRecDepth 20000 in
theorem gX1_turnTold_X1_isTied : GoodIn wsX1_turnTold (wsV RX1 31 RX1 yX1_isTied wsX1_isTied) := goodIn_app (goodIn_of _ (by decide +kernel)) ggX1_turnTold_X1_isTied
set_option maxRecDepth 20000 in
theorem ggX1_turnTold_X1_ro : GoodIn wsX1_turnTold wsX1_ro := goodIn_r _ [14, 15, 16, 17, 18, 19] (by decide +kernel) (by decide +kernel)
set_option maxRecDepth 20000 in
theorem gX1_turnTold_X1_ro : GoodIn wsX1_turnTold (wsV RX1 27 RX1 yX1_ro wsX1_ro) := goodIn_app (goodIn_of _ (by decide +kernel)) ggX1_turnTold_X1_ro
theorem dX1_turnTold_0 : decode cX1_turnTold 0 = .ok (.iload_n 2, 1) := by decide +kernel
theorem dX1_turnTold_1 : decode cX1_turnTold 1 = .ok (.iconst 2, 1) := by decide +kernel
theorem dX1_turnTold_2 : decode cX1_turnTold 2 = .ok (.if_icmp .ne 19, 3) := by decide +kernel
theorem dX1_turnTold_5 : decode cX1_turnTold 5 = .ok (.aload_n 0, 1) := by decide +kernel
theorem dX1_turnTold_6 : decode cX1_turnTold 6 = .ok (.aload_n 3, 1) := by decide +kernel
theorem dX1_turnTold_7 : decode cX1_turnTold 7 = .ok (.invokevirtual 39, 3) := by decide +kernel
theorem dX1_turnTold_10 : decode cX1_turnTold 10 = .ok (.ifCond .eq 9, 3) := by decide +kernel
theorem dX1_turnTold_13 : decode cX1_turnTold 13 = .ok (.aload_n 3, 1) := by decide +kernel
theorem dX1_turnTold_14 : decode cX1_turnTold 14 = .ok (.iload_n 1, 1) := by decide +kernel
theorem dX1_turnTold_15 : decode cX1_turnTold 15 = .ok (.iaload, 1) := by decide +kernel
theorem dX1_turnTold_16 : decode cX1_turnTold 16 = .ok (.goto 4, 3) := by decide +kernel
theorem dX1_turnTold_19 : decode cX1_turnTold 19 = .ok (.iconst (-1), 1) := by decide +kernel
theorem dX1_turnTold_20 : decode cX1_turnTold 20 = .ok (.ireturn, 1) := by decide +kernel
theorem dX1_turnTold_21 : decode cX1_turnTold 21 = .ok (.iconst 0, 1) := by decide +kernel
theorem dX1_turnTold_22 : decode cX1_turnTold 22 = .ok (.istore 4, 2) := by decide +kernel
theorem dX1_turnTold_24 : decode cX1_turnTold 24 = .ok (.iconst 0, 1) := by decide +kernel
theorem dX1_turnTold_25 : decode cX1_turnTold 25 = .ok (.istore 5, 2) := by decide +kernel
theorem dX1_turnTold_27 : decode cX1_turnTold 27 = .ok (.iload 5, 2) := by decide +kernel
theorem dX1_turnTold_29 : decode cX1_turnTold 29 = .ok (.aload_n 0, 1) := by decide +kernel
theorem dX1_turnTold_30 : decode cX1_turnTold 30 = .ok (.getfield 24, 3) := by decide +kernel
theorem dX1_turnTold_33 : decode cX1_turnTold 33 = .ok (.if_icmp .ge 39, 3) := by decide +kernel
theorem dX1_turnTold_36 : decode cX1_turnTold 36 = .ok (.iload 4, 2) := by decide +kernel
theorem dX1_turnTold_38 : decode cX1_turnTold 38 = .ok (.aload_n 0, 1) := by decide +kernel
theorem dX1_turnTold_39 : decode cX1_turnTold 39 = .ok (.iload 5, 2) := by decide +kernel
theorem dX1_turnTold_41 : decode cX1_turnTold 41 = .ok (.invokevirtual 31, 3) := by decide +kernel
theorem dX1_turnTold_44 : decode cX1_turnTold 44 = .ok (.ifCond .eq 18, 3) := by decide +kernel
theorem dX1_turnTold_47 : decode cX1_turnTold 47 = .ok (.aload_n 0, 1) := by decide +kernel
theorem dX1_turnTold_48 : decode cX1_turnTold 48 = .ok (.iload 5, 2) := by decide +kernel
theorem dX1_turnTold_50 : decode cX1_turnTold 50 = .ok (.iload_n 2, 1) := by decide +kernel
theorem dX1_turnTold_51 : decode cX1_turnTold 51 = .ok (.invokevirtual 27, 3) := by decide +kernel
theorem dX1_turnTold_54 : decode cX1_turnTold 54 = .ok (.iload_n 1, 1) := by decide +kernel
theorem dX1_turnTold_55 : decode cX1_turnTold 55 = .ok (.if_icmp .ne 7, 3) := by decide +kernel
theorem dX1_turnTold_58 : decode cX1_turnTold 58 = .ok (.iconst 1, 1) := by decide +kernel
theorem dX1_turnTold_59 : decode cX1_turnTold 59 = .ok (.goto 4, 3) := by decide +kernel
theorem dX1_turnTold_62 : decode cX1_turnTold 62 = .ok (.iconst 0, 1) := by decide +kernel
theorem dX1_turnTold_63 : decode cX1_turnTold 63 = .ok (.iadd, 1) := by decide +kernel
theorem dX1_turnTold_64 : decode cX1_turnTold 64 = .ok (.istore 4, 2) := by decide +kernel
theorem dX1_turnTold_66 : decode cX1_turnTold 66 = .ok (.iinc 5 1, 3) := by decide +kernel
theorem dX1_turnTold_69 : decode cX1_turnTold 69 = .ok (.goto (-42), 3) := by decide +kernel
theorem dX1_turnTold_72 : decode cX1_turnTold 72 = .ok (.iload 4, 2) := by decide +kernel
theorem dX1_turnTold_74 : decode cX1_turnTold 74 = .ok (.ireturn, 1) := by decide +kernel
set_option maxRecDepth 20000 in
theorem ggX1_about_X1_isTurn : GoodIn wsX1_about wsX1_isTurn := goodIn_r _ [6, 7, 8, 9, 5, 10, 38, 39, 40, 41] (by decide +kernel) (by decide +kernel)
set_option maxRecDepth 20000 in
theorem gX1_about_X1_isTurn : GoodIn wsX1_about (wsV RX1 62 RX1 yX1_isTurn wsX1_isTurn) := goodIn_app (goodIn_of _ (by decide +kernel)) ggX1_about_X1_isTurn
set_option maxRecDepth 20000 in
theorem ggX1_about_X1_isIn : GoodIn wsX1_about wsX1_isIn := goodIn_r _ [10] (by decide +kernel) (by decide +kernel)
set_option maxRecDepth 20000 in
theorem gX1_about_X1_isIn : GoodIn wsX1_about (va_wsS RX1 20 yX1_isIn wsX1_isIn) := goodIn_app (goodIn_of _ (by decide +kernel)) ggX1_about_X1_isIn
set_option maxRecDepth 20000 in
theorem ggX1_about_X1_earliest : GoodIn wsX1_about wsX1_earliest := goodIn_r _ [14, 15, 7, 16, 17, 18, 19, 5, 20, 21, 22, 23, 24, 25, 38, 39, 40, 41] (by decide +kernel) (by decide +kernel)
set_option maxRecDepth 20000 in
theorem gX1_about_X1_earliest : GoodIn wsX1_about (wsV RX1 35 RX1 yX1_earliest wsX1_earliest) := goodIn_app (goodIn_of _ (by decide +kernel)) ggX1_about_X1_earliest
set_option maxRecDepth 20000 in
theorem ggX1_about_X1_turnTold : GoodIn wsX1_about wsX1_turnTold := goodIn_r _ [29, 16, 30, 31, 32, 5, 33, 22, 23, 24, 25, 17, 18, 19, 20, 21, 38, 39, 40, 41] (by decide +kernel) (by decide +kernel)
set_option maxRecDepth 20000 in
theorem gX1_about_X1_turnTold : GoodIn wsX1_about (wsV RX1 92 RX1 yX1_turnTold wsX1_turnTold) := goodIn_app (goodIn_of _ (by decide +kernel)) ggX1_about_X1_turnTold
set_option maxRecDepth 20000 in
theorem ggX1_about_X1_fail : GoodIn wsX1_about wsX1_fail := goodIn_r _ [37, 1, 38, 39, 40, 41] (by decide +kernel) (by decide +kernel)
set_option maxRecDepth 20000 in
theorem gX1_about_X1_fail : GoodIn wsX1_about (wsV RX1 58 RX1 yX1_fail wsX1_fail) := goodIn_app (goodIn_of _ (by decide +kernel)) ggX1_about_X1_fail
theorem dX1_about_0 : decode cX1_about 0 = .ok (.aload_n 0, 1) := by decide +kernel
theorem dX1_about_1 : decode cX1_about 1 = .ok (.iconst 0, 1) := by decide +kernel
theorem dX1_about_2 : decode cX1_about 2 = .ok (.putfield 13, 3) := by decide +kernel
theorem dX1_about_5 : decode cX1_about 5 = .ok (.aload_n 0, 1) := by decide +kernel
theorem dX1_about_6 : decode cX1_about 6 = .ok (.iload_n 1, 1) := by decide +kernel
theorem dX1_about_7 : decode cX1_about 7 = .ok (.invokevirtual 62, 3) := by decide +kernel
theorem dX1_about_10 : decode cX1_about 10 = .ok (.ifCond .eq 25, 3) := by decide +kernel
theorem dX1_about_13 : decode cX1_about 13 = .ok (.iload_n 2, 1) := by decide +kernel
theorem dX1_about_14 : decode cX1_about 14 = .ok (.iconst 0, 1) := by decide +kernel
theorem dX1_about_15 : decode cX1_about 15 = .ok (.iconst 2, 1) := by decide +kernel
theorem dX1_about_16 : decode cX1_about 16 = .ok (.invokestatic 20, 3) := by decide +kernel
theorem dX1_about_19 : decode cX1_about 19 = .ok (.ifCond .eq 16, 3) := by decide +kernel
theorem dX1_about_22 : decode cX1_about 22 = .ok (.aload_n 0, 1) := by decide +kernel
theorem dX1_about_23 : decode cX1_about 23 = .ok (.iload_n 1, 1) := by decide +kernel
theorem dX1_about_24 : decode cX1_about 24 = .ok (.iload_n 2, 1) := by decide +kernel
theorem dX1_about_25 : decode cX1_about 25 = .ok (.aload_n 0, 1) := by decide +kernel
theorem dX1_about_26 : decode cX1_about 26 = .ok (.invokevirtual 35, 3) := by decide +kernel
theorem dX1_about_29 : decode cX1_about 29 = .ok (.invokevirtual 92, 3) := by decide +kernel
theorem dX1_about_32 : decode cX1_about 32 = .ok (.goto 8, 3) := by decide +kernel
theorem dX1_about_35 : decode cX1_about 35 = .ok (.aload_n 0, 1) := by decide +kernel
theorem dX1_about_36 : decode cX1_about 36 = .ok (.iconst 1, 1) := by decide +kernel
theorem dX1_about_37 : decode cX1_about 37 = .ok (.invokevirtual 58, 3) := by decide +kernel
theorem dX1_about_40 : decode cX1_about 40 = .ok (.ireturn, 1) := by decide +kernel
set_option maxRecDepth 20000 in
theorem ggX1_counted_X1_ro : GoodIn wsX1_counted wsX1_ro := goodIn_r _ [7, 8, 38, 39, 40, 41] (by decide +kernel) (by decide +kernel)
set_option maxRecDepth 20000 in
theorem gX1_counted_X1_ro : GoodIn wsX1_counted (wsV RX1 27 RX1 yX1_ro wsX1_ro) := goodIn_app (goodIn_of _ (by decide +kernel)) ggX1_counted_X1_ro
set_option maxRecDepth 20000 in
theorem ggX1_counted_X1_isFound : GoodIn wsX1_counted wsX1_isFound := goodIn_r _ [12] (by decide +kernel) (by decide +kernel)
set_option maxRecDepth 20000 in
theorem gX1_counted_X1_isFound : GoodIn wsX1_counted (wsV RX1 39 RX1 yX1_isFound wsX1_isFound) := goodIn_app (goodIn_of _ (by decide +kernel)) ggX1_counted_X1_isFound
set_option maxRecDepth 20000 in
theorem ggX1_counted_X1_last : GoodIn wsX1_counted wsX1_last := goodIn_r _ [16, 1, 17, 18, 19, 20, 38, 39, 40, 41] (by decide +kernel) (by decide +kernel)
set_option maxRecDepth 20000 in
theorem gX1_counted_X1_last : GoodIn wsX1_counted (wsV RX1 95 RX1 yX1_last wsX1_last) := goodIn_app (goodIn_of _ (by decide +kernel)) ggX1_counted_X1_last
set_option maxRecDepth 20000 in
theorem ggX1_counted_X1_isTight : GoodIn wsX1_counted wsX1_isTight := goodIn_r _ [24, 25, 26, 27, 6, 28, 3, 4, 5, 7, 8, 9, 10, 11, 12, 38, 39, 40, 41] (by decide +kernel) (by decide +kernel)
set_option maxRecDepth 20000 in
theorem gX1_counted_X1_isTight : GoodIn wsX1_counted (wsV RX1 84 RX1 yX1_isTight wsX1_isTight) := goodIn_app (goodIn_of _ (by decide +kernel)) ggX1_counted_X1_isTight
set_option maxRecDepth 20000 in
theorem ggX1_counted_X1_ring : GoodIn wsX1_counted wsX1_ring := goodIn_r _ [32, 1, 33, 34, 2, 35, 36, 19, 37, 25, 26, 27, 6, 28, 3, 4, 5, 7, 8, 38, 39, 40, 41] (by decide +kernel) (by decide +kernel)
set_option maxRecDepth 20000 in
theorem gX1_counted_X1_ring : GoodIn wsX1_counted (wsV RX1 99 RX1 yX1_ring wsX1_ring) := goodIn_app (goodIn_of _ (by decide +kernel)) ggX1_counted_X1_ring
theorem dX1_counted_0 : decode cX1_counted 0 = .ok (.iconst 0, 1) := by decide +kernel
theorem dX1_counted_1 : decode cX1_counted 1 = .ok (.istore_n 3, 1) := by decide +kernel
theorem dX1_counted_2 : decode cX1_counted 2 = .ok (.iload_n 1, 1) := by decide +kernel
theorem dX1_counted_3 : decode cX1_counted 3 = .ok (.tableswitch 138 0 5 #[37, 42, 47, 77, 82, 100], 37) := by decide +kernel
theorem dX1_counted_40 : decode cX1_counted 40 = .ok (.aload_n 0, 1) := by decide +kernel
theorem dX1_counted_41 : decode cX1_counted 41 = .ok (.getfield 17, 3) := by decide +kernel
theorem dX1_counted_44 : decode cX1_counted 44 = .ok (.ireturn, 1) := by decide +kernel
theorem dX1_counted_45 : decode cX1_counted 45 = .ok (.aload_n 0, 1) := by decide +kernel
theorem dX1_counted_46 : decode cX1_counted 46 = .ok (.getfield 24, 3) := by decide +kernel
theorem dX1_counted_49 : decode cX1_counted 49 = .ok (.ireturn, 1) := by decide +kernel
theorem dX1_counted_50 : decode cX1_counted 50 = .ok (.iconst 0, 1) := by decide +kernel
theorem dX1_counted_51 : decode cX1_counted 51 = .ok (.istore 4, 2) := by decide +kernel
theorem dX1_counted_53 : decode cX1_counted 53 = .ok (.iload 4, 2) := by decide +kernel
theorem dX1_counted_55 : decode cX1_counted 55 = .ok (.aload_n 0, 1) := by decide +kernel
theorem dX1_counted_56 : decode cX1_counted 56 = .ok (.getfield 24, 3) := by decide +kernel
theorem dX1_counted_59 : decode cX1_counted 59 = .ok (.if_icmp .ge 19, 3) := by decide +kernel
theorem dX1_counted_62 : decode cX1_counted 62 = .ok (.iload_n 3, 1) := by decide +kernel
theorem dX1_counted_63 : decode cX1_counted 63 = .ok (.aload_n 0, 1) := by decide +kernel
theorem dX1_counted_64 : decode cX1_counted 64 = .ok (.iload 4, 2) := by decide +kernel
theorem dX1_counted_66 : decode cX1_counted 66 = .ok (.iconst 3, 1) := by decide +kernel
theorem dX1_counted_67 : decode cX1_counted 67 = .ok (.invokevirtual 27, 3) := by decide +kernel
theorem dX1_counted_70 : decode cX1_counted 70 = .ok (.iadd, 1) := by decide +kernel
theorem dX1_counted_71 : decode cX1_counted 71 = .ok (.istore_n 3, 1) := by decide +kernel
theorem dX1_counted_72 : decode cX1_counted 72 = .ok (.iinc 4 1, 3) := by decide +kernel
theorem dX1_counted_75 : decode cX1_counted 75 = .ok (.goto (-22), 3) := by decide +kernel
theorem dX1_counted_78 : decode cX1_counted 78 = .ok (.iload_n 3, 1) := by decide +kernel
theorem dX1_counted_79 : decode cX1_counted 79 = .ok (.ireturn, 1) := by decide +kernel
theorem dX1_counted_80 : decode cX1_counted 80 = .ok (.aload_n 2, 1) := by decide +kernel
theorem dX1_counted_81 : decode cX1_counted 81 = .ok (.bipush 12, 2) := by decide +kernel
theorem dX1_counted_83 : decode cX1_counted 83 = .ok (.iaload, 1) := by decide +kernel
theorem dX1_counted_84 : decode cX1_counted 84 = .ok (.ireturn, 1) := by decide +kernel
theorem dX1_counted_85 : decode cX1_counted 85 = .ok (.aload_n 0, 1) := by decide +kernel
theorem dX1_counted_86 : decode cX1_counted 86 = .ok (.aload_n 2, 1) := by decide +kernel
theorem dX1_counted_87 : decode cX1_counted 87 = .ok (.invokevirtual 39, 3) := by decide +kernel
theorem dX1_counted_90 : decode cX1_counted 90 = .ok (.ifCond .eq 11, 3) := by decide +kernel
theorem dX1_counted_93 : decode cX1_counted 93 = .ok (.aload_n 0, 1) := by decide +kernel
theorem dX1_counted_94 : decode cX1_counted 94 = .ok (.aload_n 2, 1) := by decide +kernel
theorem dX1_counted_95 : decode cX1_counted 95 = .ok (.invokevirtual 95, 3) := by decide +kernel
theorem dX1_counted_98 : decode cX1_counted 98 = .ok (.goto 4, 3) := by decide +kernel
theorem dX1_counted_101 : decode cX1_counted 101 = .ok (.iconst (-1), 1) := by decide +kernel
theorem dX1_counted_102 : decode cX1_counted 102 = .ok (.ireturn, 1) := by decide +kernel
theorem dX1_counted_103 : decode cX1_counted 103 = .ok (.iconst 0, 1) := by decide +kernel
theorem dX1_counted_104 : decode cX1_counted 104 = .ok (.istore 4, 2) := by decide +kernel
theorem dX1_counted_106 : decode cX1_counted 106 = .ok (.iload 4, 2) := by decide +kernel
theorem dX1_counted_108 : decode cX1_counted 108 = .ok (.aload_n 0, 1) := by decide +kernel
theorem dX1_counted_109 : decode cX1_counted 109 = .ok (.getfield 24, 3) := by decide +kernel
theorem dX1_counted_112 : decode cX1_counted 112 = .ok (.if_icmp .ge 27, 3) := by decide +kernel
theorem dX1_counted_115 : decode cX1_counted 115 = .ok (.iload_n 3, 1) := by decide +kernel
theorem dX1_counted_116 : decode cX1_counted 116 = .ok (.aload_n 0, 1) := by decide +kernel
theorem dX1_counted_117 : decode cX1_counted 117 = .ok (.iload 4, 2) := by decide +kernel
theorem dX1_counted_119 : decode cX1_counted 119 = .ok (.aload_n 2, 1) := by decide +kernel
theorem dX1_counted_120 : decode cX1_counted 120 = .ok (.invokevirtual 84, 3) := by decide +kernel
theorem dX1_counted_123 : decode cX1_counted 123 = .ok (.ifCond .eq 7, 3) := by decide +kernel
theorem dX1_counted_126 : decode cX1_counted 126 = .ok (.iconst 1, 1) := by decide +kernel
theorem dX1_counted_127 : decode cX1_counted 127 = .ok (.goto 4, 3) := by decide +kernel
theorem dX1_counted_130 : decode cX1_counted 130 = .ok (.iconst 0, 1) := by decide +kernel
theorem dX1_counted_131 : decode cX1_counted 131 = .ok (.iadd, 1) := by decide +kernel
theorem dX1_counted_132 : decode cX1_counted 132 = .ok (.istore_n 3, 1) := by decide +kernel
theorem dX1_counted_133 : decode cX1_counted 133 = .ok (.iinc 4 1, 3) := by decide +kernel
theorem dX1_counted_136 : decode cX1_counted 136 = .ok (.goto (-30), 3) := by decide +kernel
theorem dX1_counted_139 : decode cX1_counted 139 = .ok (.iload_n 3, 1) := by decide +kernel
theorem dX1_counted_140 : decode cX1_counted 140 = .ok (.ireturn, 1) := by decide +kernel
theorem dX1_counted_141 : decode cX1_counted 141 = .ok (.aload_n 0, 1) := by decide +kernel
theorem dX1_counted_142 : decode cX1_counted 142 = .ok (.invokevirtual 99, 3) := by decide +kernel
theorem dX1_counted_145 : decode cX1_counted 145 = .ok (.ireturn, 1) := by decide +kernel
set_option maxRecDepth 20000 in
theorem ggX1_count_X1_isIn : GoodIn wsX1_count wsX1_isIn := goodIn_r _ [5] (by decide +kernel) (by decide +kernel)
set_option maxRecDepth 20000 in
theorem gX1_count_X1_isIn : GoodIn wsX1_count (va_wsS RX1 20 yX1_isIn wsX1_isIn) := goodIn_app (goodIn_of _ (by decide +kernel)) ggX1_count_X1_isIn
set_option maxRecDepth 20000 in
theorem ggX1_count_X1_earliest : GoodIn wsX1_count wsX1_earliest := goodIn_r _ [9, 10, 11, 12, 13, 14, 15, 4, 16, 17, 18, 19, 20, 21, 54, 55, 56, 57] (by decide +kernel) (by decide +kernel)
set_option maxRecDepth 20000 in
theorem gX1_count_X1_earliest : GoodIn wsX1_count (wsV RX1 35 RX1 yX1_earliest wsX1_earliest) := goodIn_app (goodIn_of _ (by decide +kernel)) ggX1_count_X1_earliest
set_option maxRecDepth 20000 in
theorem ggX1_count_X1_counted : GoodIn wsX1_count wsX1_counted := goodIn_r _ [25, 11, 12, 13, 14, 15, 4, 16, 17, 26, 27, 28, 29, 30, 31, 32, 33, 34, 35, 36, 37, 38, 39, 40, 41, 18, 19, 20, 21, 42, 43, 44, 45, 10, 46, 47, 48, 49, 54, 55, 56, 57] (by decide +kernel) (by decide +kernel)
set_option maxRecDepth 20000 in
theorem gX1_count_X1_counted : GoodIn wsX1_count (wsV RX1 103 RX1 yX1_counted wsX1_counted) := goodIn_app (goodIn_of _ (by decide +kernel)) ggX1_count_X1_counted
set_option maxRecDepth 20000 in
theorem ggX1_count_X1_fail : GoodIn wsX1_count wsX1_fail := goodIn_r _ [53, 1, 54, 55, 56, 57] (by decide +kernel) (by decide +kernel)
set_option maxRecDepth 20000 in
theorem gX1_count_X1_fail : GoodIn wsX1_count (wsV RX1 58 RX1 yX1_fail wsX1_fail) := goodIn_app (goodIn_of _ (by decide +kernel)) ggX1_count_X1_fail
theorem dX1_count_0 : decode cX1_count 0 = .ok (.aload_n 0, 1) := by decide +kernel
theorem dX1_count_1 : decode cX1_count 1 = .ok (.iconst 0, 1) := by decide +kernel
theorem dX1_count_2 : decode cX1_count 2 = .ok (.putfield 13, 3) := by decide +kernel
theorem dX1_count_5 : decode cX1_count 5 = .ok (.iload_n 1, 1) := by decide +kernel
theorem dX1_count_6 : decode cX1_count 6 = .ok (.iconst 0, 1) := by decide +kernel
theorem dX1_count_7 : decode cX1_count 7 = .ok (.bipush 6, 2) := by decide +kernel
theorem dX1_count_9 : decode cX1_count 9 = .ok (.invokestatic 20, 3) := by decide +kernel
theorem dX1_count_12 : decode cX1_count 12 = .ok (.ifCond .eq 15, 3) := by decide +kernel
theorem dX1_count_15 : decode cX1_count 15 = .ok (.aload_n 0, 1) := by decide +kernel
theorem dX1_count_16 : decode cX1_count 16 = .ok (.iload_n 1, 1) := by decide +kernel
theorem dX1_count_17 : decode cX1_count 17 = .ok (.aload_n 0, 1) := by decide +kernel
theorem dX1_count_18 : decode cX1_count 18 = .ok (.invokevirtual 35, 3) := by decide +kernel
theorem dX1_count_21 : decode cX1_count 21 = .ok (.invokevirtual 103, 3) := by decide +kernel
theorem dX1_count_24 : decode cX1_count 24 = .ok (.goto 8, 3) := by decide +kernel
theorem dX1_count_27 : decode cX1_count 27 = .ok (.aload_n 0, 1) := by decide +kernel
theorem dX1_count_28 : decode cX1_count 28 = .ok (.iconst 1, 1) := by decide +kernel
theorem dX1_count_29 : decode cX1_count 29 = .ok (.invokevirtual 58, 3) := by decide +kernel
theorem dX1_count_32 : decode cX1_count 32 = .ok (.ireturn, 1) := by decide +kernel
set_option maxRecDepth 20000 in
theorem ggX1_holds_X1_isHeld : GoodIn wsX1_holds wsX1_isHeld := goodIn_r _ [6, 7, 8, 9, 5, 10, 11, 12, 13, 14, 15, 16, 17, 18, 19, 20, 21, 22, 23, 24, 25, 26, 27, 28, 29, 30] (by decide +kernel) (by decide +kernel)
set_option maxRecDepth 20000 in
theorem gX1_holds_X1_isHeld : GoodIn wsX1_holds (wsV RX1 77 RX1 yX1_isHeld wsX1_isHeld) := goodIn_app (goodIn_of _ (by decide +kernel)) ggX1_holds_X1_isHeld
theorem dX1_holds_0 : decode cX1_holds 0 = .ok (.aload_n 0, 1) := by decide +kernel
theorem dX1_holds_1 : decode cX1_holds 1 = .ok (.iconst 0, 1) := by decide +kernel
theorem dX1_holds_2 : decode cX1_holds 2 = .ok (.putfield 13, 3) := by decide +kernel
theorem dX1_holds_5 : decode cX1_holds 5 = .ok (.aload_n 0, 1) := by decide +kernel
theorem dX1_holds_6 : decode cX1_holds 6 = .ok (.invokevirtual 77, 3) := by decide +kernel
theorem dX1_holds_9 : decode cX1_holds 9 = .ok (.ireturn, 1) := by decide +kernel
set_option maxRecDepth 20000 in
theorem ggX1_late_X1_isTurn : GoodIn wsX1_late wsX1_isTurn := goodIn_r _ [11, 2, 12, 13, 10, 14, 51, 52, 53, 54] (by decide +kernel) (by decide +kernel)
set_option maxRecDepth 20000 in
theorem gX1_late_X1_isTurn : GoodIn wsX1_late (wsV RX1 62 RX1 yX1_isTurn wsX1_isTurn) := goodIn_app (goodIn_of _ (by decide +kernel)) ggX1_late_X1_isTurn
set_option maxRecDepth 20000 in
theorem ggX1_late_X1_fail : GoodIn wsX1_late wsX1_fail := goodIn_r _ [18, 1, 51, 52, 53, 54] (by decide +kernel) (by decide +kernel)
set_option maxRecDepth 20000 in
theorem gX1_late_X1_fail : GoodIn wsX1_late (wsV RX1 58 RX1 yX1_fail wsX1_fail) := goodIn_app (goodIn_of _ (by decide +kernel)) ggX1_late_X1_fail
set_option maxRecDepth 20000 in
theorem ggX1_late_X1_isIn : GoodIn wsX1_late wsX1_isIn := goodIn_r _ [14] (by decide +kernel) (by decide +kernel)
set_option maxRecDepth 20000 in
theorem gX1_late_X1_isIn : GoodIn wsX1_late (va_wsS RX1 20 yX1_isIn wsX1_isIn) := goodIn_app (goodIn_of _ (by decide +kernel)) ggX1_late_X1_isIn
set_option maxRecDepth 20000 in
theorem ggX1_late_X1_earliest : GoodIn wsX1_late wsX1_earliest := goodIn_r _ [22, 23, 2, 24, 25, 26, 27, 10, 28, 29, 30, 31, 32, 33, 51, 52, 53, 54] (by decide +kernel) (by decide +kernel)
set_option maxRecDepth 20000 in
theorem gX1_late_X1_earliest : GoodIn wsX1_late (wsV RX1 35 RX1 yX1_earliest wsX1_earliest) := goodIn_app (goodIn_of _ (by decide +kernel)) ggX1_late_X1_earliest
set_option maxRecDepth 20000 in
theorem ggX1_late_X1_isFound : GoodIn wsX1_late wsX1_isFound := goodIn_r _ [37] (by decide +kernel) (by decide +kernel)
set_option maxRecDepth 20000 in
theorem gX1_late_X1_isFound : GoodIn wsX1_late (wsV RX1 39 RX1 yX1_isFound wsX1_isFound) := goodIn_app (goodIn_of _ (by decide +kernel)) ggX1_late_X1_isFound
set_option maxRecDepth 20000 in
theorem ggX1_late_X1_last : GoodIn wsX1_late wsX1_last := goodIn_r _ [41, 2, 42, 43, 5, 44, 51, 52, 53, 54] (by decide +kernel) (by decide +kernel)
set_option maxRecDepth 20000 in
theorem gX1_late_X1_last : GoodIn wsX1_late (wsV RX1 95 RX1 yX1_last wsX1_last) := goodIn_app (goodIn_of _ (by decide +kernel)) ggX1_late_X1_last
set_option maxRecDepth 20000 in
theorem ggX1_late_X1_ways : GoodIn wsX1_late wsX1_ways := goodIn_r _ [48, 49, 23, 50, 24, 3, 4, 5, 6, 2, 30, 31, 32, 10, 33, 25, 26, 27, 28, 29, 51, 52, 53, 54] (by decide +kernel) (by decide +kernel)
set_option maxRecDepth 20000 in
theorem gX1_late_X1_ways : GoodIn wsX1_late (wsV RX1 54 RX1 yX1_ways wsX1_ways) := goodIn_app (goodIn_of _ (by decide +kernel)) ggX1_late_X1_ways
theorem dX1_late_0 : decode cX1_late 0 = .ok (.aload_n 0, 1) := by decide +kernel
theorem dX1_late_1 : decode cX1_late 1 = .ok (.iconst 0, 1) := by decide +kernel
theorem dX1_late_2 : decode cX1_late 2 = .ok (.putfield 13, 3) := by decide +kernel
theorem dX1_late_5 : decode cX1_late 5 = .ok (.aload_n 0, 1) := by decide +kernel
theorem dX1_late_6 : decode cX1_late 6 = .ok (.iload_n 1, 1) := by decide +kernel
theorem dX1_late_7 : decode cX1_late 7 = .ok (.invokevirtual 62, 3) := by decide +kernel
theorem dX1_late_10 : decode cX1_late 10 = .ok (.ifCond .ne 9, 3) := by decide +kernel
theorem dX1_late_13 : decode cX1_late 13 = .ok (.aload_n 0, 1) := by decide +kernel
theorem dX1_late_14 : decode cX1_late 14 = .ok (.iconst 1, 1) := by decide +kernel
theorem dX1_late_15 : decode cX1_late 15 = .ok (.invokevirtual 58, 3) := by decide +kernel
theorem dX1_late_18 : decode cX1_late 18 = .ok (.ireturn, 1) := by decide +kernel
theorem dX1_late_19 : decode cX1_late 19 = .ok (.iload_n 2, 1) := by decide +kernel
theorem dX1_late_20 : decode cX1_late 20 = .ok (.iconst 0, 1) := by decide +kernel
theorem dX1_late_21 : decode cX1_late 21 = .ok (.sipush 9999, 3) := by decide +kernel
theorem dX1_late_24 : decode cX1_late 24 = .ok (.invokestatic 20, 3) := by decide +kernel
theorem dX1_late_27 : decode cX1_late 27 = .ok (.ifCond .ne 9, 3) := by decide +kernel
theorem dX1_late_30 : decode cX1_late 30 = .ok (.aload_n 0, 1) := by decide +kernel
theorem dX1_late_31 : decode cX1_late 31 = .ok (.iconst 2, 1) := by decide +kernel
theorem dX1_late_32 : decode cX1_late 32 = .ok (.invokevirtual 58, 3) := by decide +kernel
theorem dX1_late_35 : decode cX1_late 35 = .ok (.ireturn, 1) := by decide +kernel
theorem dX1_late_36 : decode cX1_late 36 = .ok (.aload_n 0, 1) := by decide +kernel
theorem dX1_late_37 : decode cX1_late 37 = .ok (.invokevirtual 35, 3) := by decide +kernel
theorem dX1_late_40 : decode cX1_late 40 = .ok (.astore_n 3, 1) := by decide +kernel
theorem dX1_late_41 : decode cX1_late 41 = .ok (.aload_n 0, 1) := by decide +kernel
theorem dX1_late_42 : decode cX1_late 42 = .ok (.aload_n 3, 1) := by decide +kernel
theorem dX1_late_43 : decode cX1_late 43 = .ok (.invokevirtual 39, 3) := by decide +kernel
theorem dX1_late_46 : decode cX1_late 46 = .ok (.ifCond .eq 12, 3) := by decide +kernel
theorem dX1_late_49 : decode cX1_late 49 = .ok (.aload_n 0, 1) := by decide +kernel
theorem dX1_late_50 : decode cX1_late 50 = .ok (.aload_n 3, 1) := by decide +kernel
theorem dX1_late_51 : decode cX1_late 51 = .ok (.invokevirtual 95, 3) := by decide +kernel
theorem dX1_late_54 : decode cX1_late 54 = .ok (.iload_n 2, 1) := by decide +kernel
theorem dX1_late_55 : decode cX1_late 55 = .ok (.if_icmp .le 9, 3) := by decide +kernel
theorem dX1_late_58 : decode cX1_late 58 = .ok (.aload_n 0, 1) := by decide +kernel
theorem dX1_late_59 : decode cX1_late 59 = .ok (.iconst 3, 1) := by decide +kernel
theorem dX1_late_60 : decode cX1_late 60 = .ok (.invokevirtual 58, 3) := by decide +kernel
theorem dX1_late_63 : decode cX1_late 63 = .ok (.ireturn, 1) := by decide +kernel
theorem dX1_late_64 : decode cX1_late 64 = .ok (.aload_n 0, 1) := by decide +kernel
theorem dX1_late_65 : decode cX1_late 65 = .ok (.invokevirtual 54, 3) := by decide +kernel
theorem dX1_late_68 : decode cX1_late 68 = .ok (.astore 4, 2) := by decide +kernel
theorem dX1_late_70 : decode cX1_late 70 = .ok (.iconst 0, 1) := by decide +kernel
theorem dX1_late_71 : decode cX1_late 71 = .ok (.istore 5, 2) := by decide +kernel
theorem dX1_late_73 : decode cX1_late 73 = .ok (.iconst 0, 1) := by decide +kernel
theorem dX1_late_74 : decode cX1_late 74 = .ok (.istore 6, 2) := by decide +kernel
theorem dX1_late_76 : decode cX1_late 76 = .ok (.iload 6, 2) := by decide +kernel
theorem dX1_late_78 : decode cX1_late 78 = .ok (.aload_n 0, 1) := by decide +kernel
theorem dX1_late_79 : decode cX1_late 79 = .ok (.getfield 17, 3) := by decide +kernel
theorem dX1_late_82 : decode cX1_late 82 = .ok (.if_icmp .ge 23, 3) := by decide +kernel
theorem dX1_late_85 : decode cX1_late 85 = .ok (.iload 5, 2) := by decide +kernel
theorem dX1_late_87 : decode cX1_late 87 = .ok (.aload 4, 2) := by decide +kernel
theorem dX1_late_89 : decode cX1_late 89 = .ok (.iload 6, 2) := by decide +kernel
theorem dX1_late_91 : decode cX1_late 91 = .ok (.aaload, 1) := by decide +kernel
theorem dX1_late_92 : decode cX1_late 92 = .ok (.iload_n 1, 1) := by decide +kernel
theorem dX1_late_93 : decode cX1_late 93 = .ok (.iaload, 1) := by decide +kernel
theorem dX1_late_94 : decode cX1_late 94 = .ok (.invokestatic 51, 3) := by decide +kernel
theorem dX1_late_97 : decode cX1_late 97 = .ok (.istore 5, 2) := by decide +kernel
theorem dX1_late_99 : decode cX1_late 99 = .ok (.iinc 6 1, 3) := by decide +kernel
theorem dX1_late_102 : decode cX1_late 102 = .ok (.goto (-26), 3) := by decide +kernel
theorem dX1_late_105 : decode cX1_late 105 = .ok (.iload_n 2, 1) := by decide +kernel
theorem dX1_late_106 : decode cX1_late 106 = .ok (.iload 5, 2) := by decide +kernel
theorem dX1_late_108 : decode cX1_late 108 = .ok (.iadd, 1) := by decide +kernel
theorem dX1_late_109 : decode cX1_late 109 = .ok (.ireturn, 1) := by decide +kernel
set_option maxRecDepth 20000 in
theorem ggX1_most_X1_isTurn : GoodIn wsX1_most wsX1_isTurn := goodIn_r _ [6, 7, 8, 9, 5, 10, 48, 49, 50, 51] (by decide +kernel) (by decide +kernel)
set_option maxRecDepth 20000 in
theorem gX1_most_X1_isTurn : GoodIn wsX1_most (wsV RX1 62 RX1 yX1_isTurn wsX1_isTurn) := goodIn_app (goodIn_of _ (by decide +kernel)) ggX1_most_X1_isTurn
set_option maxRecDepth 20000 in
theorem ggX1_most_X1_fail : GoodIn wsX1_most wsX1_fail := goodIn_r _ [14, 1, 48, 49, 50, 51] (by decide +kernel) (by decide +kernel)
set_option maxRecDepth 20000 in
theorem gX1_most_X1_fail : GoodIn wsX1_most (wsV RX1 58 RX1 yX1_fail wsX1_fail) := goodIn_app (goodIn_of _ (by decide +kernel)) ggX1_most_X1_fail
set_option maxRecDepth 20000 in
theorem ggX1_most_X1_isHeld : GoodIn wsX1_most wsX1_isHeld := goodIn_r _ [18, 19, 20, 21, 5, 22, 23, 7, 24, 25, 26, 27, 28, 29, 30, 31, 32, 33, 34, 35, 36, 37, 48, 49, 50, 51] (by decide +kernel) (by decide +kernel)
set_option maxRecDepth 20000 in
theorem gX1_most_X1_isHeld : GoodIn wsX1_most (wsV RX1 77 RX1 yX1_isHeld wsX1_isHeld) := goodIn_app (goodIn_of _ (by decide +kernel)) ggX1_most_X1_isHeld
set_option maxRecDepth 20000 in
theorem ggX1_most_X1_ways : GoodIn wsX1_most wsX1_ways := goodIn_r _ [41, 42, 23, 43, 24, 44, 45, 46, 47, 7, 30, 31, 32, 5, 33, 25, 26, 27, 28, 29, 48, 49, 50, 51] (by decide +kernel) (by decide +kernel)
set_option maxRecDepth 20000 in
theorem gX1_most_X1_ways : GoodIn wsX1_most (wsV RX1 54 RX1 yX1_ways wsX1_ways) := goodIn_app (goodIn_of _ (by decide +kernel)) ggX1_most_X1_ways
theorem dX1_most_0 : decode cX1_most 0 = .ok (.aload_n 0, 1) := by decide +kernel
theorem dX1_most_1 : decode cX1_most 1 = .ok (.iconst 0, 1) := by decide +kernel
theorem dX1_most_2 : decode cX1_most 2 = .ok (.putfield 13, 3) := by decide +kernel
theorem dX1_most_5 : decode cX1_most 5 = .ok (.aload_n 0, 1) := by decide +kernel
theorem dX1_most_6 : decode cX1_most 6 = .ok (.iload_n 1, 1) := by decide +kernel
theorem dX1_most_7 : decode cX1_most 7 = .ok (.invokevirtual 62, 3) := by decide +kernel
theorem dX1_most_10 : decode cX1_most 10 = .ok (.ifCond .eq 11, 3) := by decide +kernel
theorem dX1_most_13 : decode cX1_most 13 = .ok (.aload_n 0, 1) := by decide +kernel
theorem dX1_most_14 : decode cX1_most 14 = .ok (.iload_n 2, 1) := by decide +kernel
theorem dX1_most_15 : decode cX1_most 15 = .ok (.invokevirtual 62, 3) := by decide +kernel
theorem dX1_most_18 : decode cX1_most 18 = .ok (.ifCond .ne 9, 3) := by decide +kernel
theorem dX1_most_21 : decode cX1_most 21 = .ok (.aload_n 0, 1) := by decide +kernel
theorem dX1_most_22 : decode cX1_most 22 = .ok (.iconst 1, 1) := by decide +kernel
theorem dX1_most_23 : decode cX1_most 23 = .ok (.invokevirtual 58, 3) := by decide +kernel
theorem dX1_most_26 : decode cX1_most 26 = .ok (.ireturn, 1) := by decide +kernel
theorem dX1_most_27 : decode cX1_most 27 = .ok (.aload_n 0, 1) := by decide +kernel
theorem dX1_most_28 : decode cX1_most 28 = .ok (.invokevirtual 77, 3) := by decide +kernel
theorem dX1_most_31 : decode cX1_most 31 = .ok (.ifCond .eq 14, 3) := by decide +kernel
theorem dX1_most_34 : decode cX1_most 34 = .ok (.aload_n 0, 1) := by decide +kernel
theorem dX1_most_35 : decode cX1_most 35 = .ok (.invokevirtual 54, 3) := by decide +kernel
theorem dX1_most_38 : decode cX1_most 38 = .ok (.iload_n 1, 1) := by decide +kernel
theorem dX1_most_39 : decode cX1_most 39 = .ok (.aaload, 1) := by decide +kernel
theorem dX1_most_40 : decode cX1_most 40 = .ok (.iload_n 2, 1) := by decide +kernel
theorem dX1_most_41 : decode cX1_most 41 = .ok (.iaload, 1) := by decide +kernel
theorem dX1_most_42 : decode cX1_most 42 = .ok (.goto 8, 3) := by decide +kernel
theorem dX1_most_45 : decode cX1_most 45 = .ok (.aload_n 0, 1) := by decide +kernel
theorem dX1_most_46 : decode cX1_most 46 = .ok (.iconst 2, 1) := by decide +kernel
theorem dX1_most_47 : decode cX1_most 47 = .ok (.invokevirtual 58, 3) := by decide +kernel
theorem dX1_most_50 : decode cX1_most 50 = .ok (.ireturn, 1) := by decide +kernel
set_option maxRecDepth 20000 in
theorem ggX1_room_X1_isRope : GoodIn wsX1_room wsX1_isRope := goodIn_r _ [6, 7, 8, 9, 5, 10, 55, 56, 57, 58] (by decide +kernel) (by decide +kernel)
set_option maxRecDepth 20000 in
theorem gX1_room_X1_isRope : GoodIn wsX1_room (wsV RX1 74 RX1 yX1_isRope wsX1_isRope) := goodIn_app (goodIn_of _ (by decide +kernel)) ggX1_room_X1_isRope
set_option maxRecDepth 20000 in
theorem ggX1_room_X1_fail : GoodIn wsX1_room wsX1_fail := goodIn_r _ [14, 1, 55, 56, 57, 58] (by decide +kernel) (by decide +kernel)
set_option maxRecDepth 20000 in
theorem gX1_room_X1_fail : GoodIn wsX1_room (wsV RX1 58 RX1 yX1_fail wsX1_fail) := goodIn_app (goodIn_of _ (by decide +kernel)) ggX1_room_X1_fail
set_option maxRecDepth 20000 in
theorem ggX1_room_X1_isTied : GoodIn wsX1_room wsX1_isTied := goodIn_r _ [18, 19, 20, 21, 5, 22, 23, 55, 56, 57, 58] (by decide +kernel) (by decide +kernel)
set_option maxRecDepth 20000 in
theorem gX1_room_X1_isTied : GoodIn wsX1_room (wsV RX1 31 RX1 yX1_isTied wsX1_isTied) := goodIn_app (goodIn_of _ (by decide +kernel)) ggX1_room_X1_isTied
set_option maxRecDepth 20000 in
theorem ggX1_room_X1_isHeld : GoodIn wsX1_room wsX1_isHeld := goodIn_r _ [27, 28, 29, 30, 5, 31, 32, 33, 7, 19, 20, 21, 22, 23, 15, 16, 17, 18, 34, 35, 36, 37, 55, 56, 57, 58] (by decide +kernel) (by decide +kernel)
set_option maxRecDepth 20000 in
theorem gX1_room_X1_isHeld : GoodIn wsX1_room (wsV RX1 77 RX1 yX1_isHeld wsX1_isHeld) := goodIn_app (goodIn_of _ (by decide +kernel)) ggX1_room_X1_isHeld
set_option maxRecDepth 20000 in
theorem ggX1_room_X1_shortest : GoodIn wsX1_room wsX1_shortest := goodIn_r _ [41, 42, 43, 44, 45, 46, 47, 48, 49, 5, 50, 51, 32, 7, 52, 53, 54, 33, 15, 16, 17, 18, 19, 20, 21, 22, 23, 55, 56, 57, 58] (by decide +kernel) (by decide +kernel)
set_option maxRecDepth 20000 in
theorem gX1_room_X1_shortest : GoodIn wsX1_room (wsV RX1 81 RX1 yX1_shortest wsX1_shortest) := goodIn_app (goodIn_of _ (by decide +kernel)) ggX1_room_X1_shortest
theorem dX1_room_0 : decode cX1_room 0 = .ok (.aload_n 0, 1) := by decide +kernel
theorem dX1_room_1 : decode cX1_room 1 = .ok (.iconst 0, 1) := by decide +kernel
theorem dX1_room_2 : decode cX1_room 2 = .ok (.putfield 13, 3) := by decide +kernel
theorem dX1_room_5 : decode cX1_room 5 = .ok (.aload_n 0, 1) := by decide +kernel
theorem dX1_room_6 : decode cX1_room 6 = .ok (.iload_n 1, 1) := by decide +kernel
theorem dX1_room_7 : decode cX1_room 7 = .ok (.invokevirtual 74, 3) := by decide +kernel
theorem dX1_room_10 : decode cX1_room 10 = .ok (.ifCond .ne 9, 3) := by decide +kernel
theorem dX1_room_13 : decode cX1_room 13 = .ok (.aload_n 0, 1) := by decide +kernel
theorem dX1_room_14 : decode cX1_room 14 = .ok (.iconst 1, 1) := by decide +kernel
theorem dX1_room_15 : decode cX1_room 15 = .ok (.invokevirtual 58, 3) := by decide +kernel
theorem dX1_room_18 : decode cX1_room 18 = .ok (.ireturn, 1) := by decide +kernel
theorem dX1_room_19 : decode cX1_room 19 = .ok (.aload_n 0, 1) := by decide +kernel
theorem dX1_room_20 : decode cX1_room 20 = .ok (.iload_n 1, 1) := by decide +kernel
theorem dX1_room_21 : decode cX1_room 21 = .ok (.invokevirtual 31, 3) := by decide +kernel
theorem dX1_room_24 : decode cX1_room 24 = .ok (.ifCond .eq 18, 3) := by decide +kernel
theorem dX1_room_27 : decode cX1_room 27 = .ok (.aload_n 0, 1) := by decide +kernel
theorem dX1_room_28 : decode cX1_room 28 = .ok (.invokevirtual 77, 3) := by decide +kernel
theorem dX1_room_31 : decode cX1_room 31 = .ok (.ifCond .eq 11, 3) := by decide +kernel
theorem dX1_room_34 : decode cX1_room 34 = .ok (.aload_n 0, 1) := by decide +kernel
theorem dX1_room_35 : decode cX1_room 35 = .ok (.iload_n 1, 1) := by decide +kernel
theorem dX1_room_36 : decode cX1_room 36 = .ok (.invokevirtual 81, 3) := by decide +kernel
theorem dX1_room_39 : decode cX1_room 39 = .ok (.goto 8, 3) := by decide +kernel
theorem dX1_room_42 : decode cX1_room 42 = .ok (.aload_n 0, 1) := by decide +kernel
theorem dX1_room_43 : decode cX1_room 43 = .ok (.iconst 2, 1) := by decide +kernel
theorem dX1_room_44 : decode cX1_room 44 = .ok (.invokevirtual 58, 3) := by decide +kernel
theorem dX1_room_47 : decode cX1_room 47 = .ok (.ireturn, 1) := by decide +kernel
set_option maxRecDepth 20000 in
theorem ggX1_would_X1_isTurn : GoodIn wsX1_would wsX1_isTurn := goodIn_r _ [7, 8, 9, 10, 6, 11, 47, 48, 49, 50] (by decide +kernel) (by decide +kernel)
set_option maxRecDepth 20000 in
theorem gX1_would_X1_isTurn : GoodIn wsX1_would (wsV RX1 62 RX1 yX1_isTurn wsX1_isTurn) := goodIn_app (goodIn_of _ (by decide +kernel)) ggX1_would_X1_isTurn
set_option maxRecDepth 20000 in
theorem ggX1_would_X1_isLong : GoodIn wsX1_would wsX1_isLong := goodIn_r _ [14, 9, 10, 6, 11] (by decide +kernel) (by decide +kernel)
set_option maxRecDepth 20000 in
theorem gX1_would_X1_isLong : GoodIn wsX1_would (va_wsS RX1 65 yX1_isLong wsX1_isLong) := goodIn_app (goodIn_of _ (by decide +kernel)) ggX1_would_X1_isLong
set_option maxRecDepth 20000 in
theorem ggX1_would_X1_isHeld : GoodIn wsX1_would wsX1_isHeld := goodIn_r _ [18, 19, 20, 21, 6, 22, 23, 8, 24, 25, 26, 27, 28, 29, 30, 31, 32, 33, 34, 35, 36, 37, 47, 48, 49, 50] (by decide +kernel) (by decide +kernel)
set_option maxRecDepth 20000 in
theorem gX1_would_X1_isHeld : GoodIn wsX1_would (wsV RX1 77 RX1 yX1_isHeld wsX1_isHeld) := goodIn_app (goodIn_of _ (by decide +kernel)) ggX1_would_X1_isHeld
set_option maxRecDepth 20000 in
theorem ggX1_would_X1_ways : GoodIn wsX1_would wsX1_ways := goodIn_r _ [41, 42, 23, 2, 24, 43, 44, 45, 46, 8, 30, 31, 32, 6, 33, 25, 26, 27, 28, 29, 47, 48, 49, 50] (by decide +kernel) (by decide +kernel)
set_option maxRecDepth 20000 in
theorem gX1_would_X1_ways : GoodIn wsX1_would (wsV RX1 54 RX1 yX1_ways wsX1_ways) := goodIn_app (goodIn_of _ (by decide +kernel)) ggX1_would_X1_ways
theorem dX1_would_0 : decode cX1_would 0 = .ok (.aload_n 0, 1) := by decide +kernel
theorem dX1_would_1 : decode cX1_would 1 = .ok (.aload_n 0, 1) := by decide +kernel
theorem dX1_would_2 : decode cX1_would 2 = .ok (.iload_n 1, 1) := by decide +kernel
theorem dX1_would_3 : decode cX1_would 3 = .ok (.invokevirtual 62, 3) := by decide +kernel
theorem dX1_would_6 : decode cX1_would 6 = .ok (.ifCond .eq 11, 3) := by decide +kernel
theorem dX1_would_9 : decode cX1_would 9 = .ok (.aload_n 0, 1) := by decide +kernel
theorem dX1_would_10 : decode cX1_would 10 = .ok (.iload_n 2, 1) := by decide +kernel
theorem dX1_would_11 : decode cX1_would 11 = .ok (.invokevirtual 62, 3) := by decide +kernel
theorem dX1_would_14 : decode cX1_would 14 = .ok (.ifCond .ne 7, 3) := by decide +kernel
theorem dX1_would_17 : decode cX1_would 17 = .ok (.iconst 1, 1) := by decide +kernel
theorem dX1_would_18 : decode cX1_would 18 = .ok (.goto 20, 3) := by decide +kernel
theorem dX1_would_21 : decode cX1_would 21 = .ok (.iload_n 1, 1) := by decide +kernel
theorem dX1_would_22 : decode cX1_would 22 = .ok (.iload_n 2, 1) := by decide +kernel
theorem dX1_would_23 : decode cX1_would 23 = .ok (.if_icmp .eq 10, 3) := by decide +kernel
theorem dX1_would_26 : decode cX1_would 26 = .ok (.iload_n 3, 1) := by decide +kernel
theorem dX1_would_27 : decode cX1_would 27 = .ok (.invokestatic 65, 3) := by decide +kernel
theorem dX1_would_30 : decode cX1_would 30 = .ok (.ifCond .ne 7, 3) := by decide +kernel
theorem dX1_would_33 : decode cX1_would 33 = .ok (.iconst 2, 1) := by decide +kernel
theorem dX1_would_34 : decode cX1_would 34 = .ok (.goto 4, 3) := by decide +kernel
theorem dX1_would_37 : decode cX1_would 37 = .ok (.iconst 0, 1) := by decide +kernel
theorem dX1_would_38 : decode cX1_would 38 = .ok (.putfield 13, 3) := by decide +kernel
theorem dX1_would_41 : decode cX1_would 41 = .ok (.aload_n 0, 1) := by decide +kernel
theorem dX1_would_42 : decode cX1_would 42 = .ok (.getfield 13, 3) := by decide +kernel
theorem dX1_would_45 : decode cX1_would 45 = .ok (.ifCond .ne 10, 3) := by decide +kernel
theorem dX1_would_48 : decode cX1_would 48 = .ok (.aload_n 0, 1) := by decide +kernel
theorem dX1_would_49 : decode cX1_would 49 = .ok (.invokevirtual 77, 3) := by decide +kernel
theorem dX1_would_52 : decode cX1_would 52 = .ok (.ifCond .ne 5, 3) := by decide +kernel
theorem dX1_would_55 : decode cX1_would 55 = .ok (.iconst 0, 1) := by decide +kernel
theorem dX1_would_56 : decode cX1_would 56 = .ok (.ireturn, 1) := by decide +kernel
theorem dX1_would_57 : decode cX1_would 57 = .ok (.aload_n 0, 1) := by decide +kernel
theorem dX1_would_58 : decode cX1_would 58 = .ok (.invokevirtual 54, 3) := by decide +kernel
theorem dX1_would_61 : decode cX1_would 61 = .ok (.iload_n 2, 1) := by decide +kernel
theorem dX1_would_62 : decode cX1_would 62 = .ok (.aaload, 1) := by decide +kernel
theorem dX1_would_63 : decode cX1_would 63 = .ok (.iload_n 1, 1) := by decide +kernel
theorem dX1_would_64 : decode cX1_would 64 = .ok (.iaload, 1) := by decide +kernel
theorem dX1_would_65 : decode cX1_would 65 = .ok (.istore 4, 2) := by decide +kernel
theorem dX1_would_67 : decode cX1_would 67 = .ok (.iload 4, 2) := by decide +kernel
theorem dX1_would_69 : decode cX1_would 69 = .ok (.ldc 50, 2) := by decide +kernel
theorem dX1_would_71 : decode cX1_would 71 = .ok (.if_icmp .eq 10, 3) := by decide +kernel
theorem dX1_would_74 : decode cX1_would 74 = .ok (.iload 4, 2) := by decide +kernel
theorem dX1_would_76 : decode cX1_would 76 = .ok (.iload_n 3, 1) := by decide +kernel
theorem dX1_would_77 : decode cX1_would 77 = .ok (.iadd, 1) := by decide +kernel
theorem dX1_would_78 : decode cX1_would 78 = .ok (.ifCond .lt 7, 3) := by decide +kernel
theorem dX1_would_81 : decode cX1_would 81 = .ok (.iconst 1, 1) := by decide +kernel
theorem dX1_would_82 : decode cX1_would 82 = .ok (.goto 4, 3) := by decide +kernel
theorem dX1_would_85 : decode cX1_would 85 = .ok (.iconst 0, 1) := by decide +kernel
theorem dX1_would_86 : decode cX1_would 86 = .ok (.ireturn, 1) := by decide +kernel
set_option maxRecDepth 20000 in
theorem ggX1_at_X1_isTurn : GoodIn wsX1_at wsX1_isTurn := goodIn_r _ [7, 2, 8, 9, 6, 10, 34, 35, 36, 37] (by decide +kernel) (by decide +kernel)
set_option maxRecDepth 20000 in
theorem gX1_at_X1_isTurn : GoodIn wsX1_at (wsV RX1 62 RX1 yX1_isTurn wsX1_isTurn) := goodIn_app (goodIn_of _ (by decide +kernel)) ggX1_at_X1_isTurn
set_option maxRecDepth 20000 in
theorem ggX1_at_X1_fail : GoodIn wsX1_at wsX1_fail := goodIn_r _ [14, 1, 34, 35, 36, 37] (by decide +kernel) (by decide +kernel)
set_option maxRecDepth 20000 in
theorem gX1_at_X1_fail : GoodIn wsX1_at (wsV RX1 58 RX1 yX1_fail wsX1_fail) := goodIn_app (goodIn_of _ (by decide +kernel)) ggX1_at_X1_fail
set_option maxRecDepth 20000 in
theorem ggX1_at_X1_earliest : GoodIn wsX1_at wsX1_earliest := goodIn_r _ [18, 19, 2, 20, 21, 22, 23, 6, 24, 25, 26, 27, 28, 29, 34, 35, 36, 37] (by decide +kernel) (by decide +kernel)
set_option maxRecDepth 20000 in
theorem gX1_at_X1_earliest : GoodIn wsX1_at (wsV RX1 35 RX1 yX1_earliest wsX1_earliest) := goodIn_app (goodIn_of _ (by decide +kernel)) ggX1_at_X1_earliest
set_option maxRecDepth 20000 in
theorem ggX1_at_X1_isFound : GoodIn wsX1_at wsX1_isFound := goodIn_r _ [33] (by decide +kernel) (by decide +kernel)
set_option maxRecDepth 20000 in
theorem gX1_at_X1_isFound : GoodIn wsX1_at (wsV RX1 39 RX1 yX1_isFound wsX1_isFound) := goodIn_app (goodIn_of _ (by decide +kernel)) ggX1_at_X1_isFound
theorem dX1_at_0 : decode cX1_at 0 = .ok (.aload_n 0, 1) := by decide +kernel
theorem dX1_at_1 : decode cX1_at 1 = .ok (.iconst 0, 1) := by decide +kernel
theorem dX1_at_2 : decode cX1_at 2 = .ok (.putfield 13, 3) := by decide +kernel
theorem dX1_at_5 : decode cX1_at 5 = .ok (.aload_n 0, 1) := by decide +kernel
theorem dX1_at_6 : decode cX1_at 6 = .ok (.iload_n 1, 1) := by decide +kernel
theorem dX1_at_7 : decode cX1_at 7 = .ok (.invokevirtual 62, 3) := by decide +kernel
theorem dX1_at_10 : decode cX1_at 10 = .ok (.ifCond .ne 9, 3) := by decide +kernel
theorem dX1_at_13 : decode cX1_at 13 = .ok (.aload_n 0, 1) := by decide +kernel
theorem dX1_at_14 : decode cX1_at 14 = .ok (.iconst 1, 1) := by decide +kernel
theorem dX1_at_15 : decode cX1_at 15 = .ok (.invokevirtual 58, 3) := by decide +kernel
theorem dX1_at_18 : decode cX1_at 18 = .ok (.ireturn, 1) := by decide +kernel
theorem dX1_at_19 : decode cX1_at 19 = .ok (.aload_n 0, 1) := by decide +kernel
theorem dX1_at_20 : decode cX1_at 20 = .ok (.invokevirtual 35, 3) := by decide +kernel
theorem dX1_at_23 : decode cX1_at 23 = .ok (.astore_n 2, 1) := by decide +kernel
theorem dX1_at_24 : decode cX1_at 24 = .ok (.aload_n 0, 1) := by decide +kernel
theorem dX1_at_25 : decode cX1_at 25 = .ok (.aload_n 2, 1) := by decide +kernel
theorem dX1_at_26 : decode cX1_at 26 = .ok (.invokevirtual 39, 3) := by decide +kernel
theorem dX1_at_29 : decode cX1_at 29 = .ok (.ifCond .ne 9, 3) := by decide +kernel
theorem dX1_at_32 : decode cX1_at 32 = .ok (.aload_n 0, 1) := by decide +kernel
theorem dX1_at_33 : decode cX1_at 33 = .ok (.iconst 2, 1) := by decide +kernel
theorem dX1_at_34 : decode cX1_at 34 = .ok (.invokevirtual 58, 3) := by decide +kernel
theorem dX1_at_37 : decode cX1_at 37 = .ok (.ireturn, 1) := by decide +kernel
theorem dX1_at_38 : decode cX1_at 38 = .ok (.iconst 0, 1) := by decide +kernel
theorem dX1_at_39 : decode cX1_at 39 = .ok (.istore_n 3, 1) := by decide +kernel
theorem dX1_at_40 : decode cX1_at 40 = .ok (.iload_n 3, 1) := by decide +kernel
theorem dX1_at_41 : decode cX1_at 41 = .ok (.aload_n 0, 1) := by decide +kernel
theorem dX1_at_42 : decode cX1_at 42 = .ok (.getfield 17, 3) := by decide +kernel
theorem dX1_at_45 : decode cX1_at 45 = .ok (.if_icmp .ge 74, 3) := by decide +kernel
theorem dX1_at_48 : decode cX1_at 48 = .ok (.iconst 0, 1) := by decide +kernel
theorem dX1_at_49 : decode cX1_at 49 = .ok (.istore 4, 2) := by decide +kernel
theorem dX1_at_51 : decode cX1_at 51 = .ok (.iconst 0, 1) := by decide +kernel
theorem dX1_at_52 : decode cX1_at 52 = .ok (.istore 5, 2) := by decide +kernel
theorem dX1_at_54 : decode cX1_at 54 = .ok (.iload 5, 2) := by decide +kernel
theorem dX1_at_56 : decode cX1_at 56 = .ok (.aload_n 0, 1) := by decide +kernel
theorem dX1_at_57 : decode cX1_at 57 = .ok (.getfield 17, 3) := by decide +kernel
theorem dX1_at_60 : decode cX1_at 60 = .ok (.if_icmp .ge 45, 3) := by decide +kernel
theorem dX1_at_63 : decode cX1_at 63 = .ok (.iload 4, 2) := by decide +kernel
theorem dX1_at_65 : decode cX1_at 65 = .ok (.aload_n 2, 1) := by decide +kernel
theorem dX1_at_66 : decode cX1_at 66 = .ok (.iload 5, 2) := by decide +kernel
theorem dX1_at_68 : decode cX1_at 68 = .ok (.iaload, 1) := by decide +kernel
theorem dX1_at_69 : decode cX1_at 69 = .ok (.aload_n 2, 1) := by decide +kernel
theorem dX1_at_70 : decode cX1_at 70 = .ok (.iload_n 3, 1) := by decide +kernel
theorem dX1_at_71 : decode cX1_at 71 = .ok (.iaload, 1) := by decide +kernel
theorem dX1_at_72 : decode cX1_at 72 = .ok (.if_icmp .lt 19, 3) := by decide +kernel
theorem dX1_at_75 : decode cX1_at 75 = .ok (.aload_n 2, 1) := by decide +kernel
theorem dX1_at_76 : decode cX1_at 76 = .ok (.iload 5, 2) := by decide +kernel
theorem dX1_at_78 : decode cX1_at 78 = .ok (.iaload, 1) := by decide +kernel
theorem dX1_at_79 : decode cX1_at 79 = .ok (.aload_n 2, 1) := by decide +kernel
theorem dX1_at_80 : decode cX1_at 80 = .ok (.iload_n 3, 1) := by decide +kernel
theorem dX1_at_81 : decode cX1_at 81 = .ok (.iaload, 1) := by decide +kernel
theorem dX1_at_82 : decode cX1_at 82 = .ok (.if_icmp .ne 13, 3) := by decide +kernel
theorem dX1_at_85 : decode cX1_at 85 = .ok (.iload 5, 2) := by decide +kernel
theorem dX1_at_87 : decode cX1_at 87 = .ok (.iload_n 3, 1) := by decide +kernel
theorem dX1_at_88 : decode cX1_at 88 = .ok (.if_icmp .ge 7, 3) := by decide +kernel
theorem dX1_at_91 : decode cX1_at 91 = .ok (.iconst 1, 1) := by decide +kernel
theorem dX1_at_92 : decode cX1_at 92 = .ok (.goto 4, 3) := by decide +kernel
theorem dX1_at_95 : decode cX1_at 95 = .ok (.iconst 0, 1) := by decide +kernel
theorem dX1_at_96 : decode cX1_at 96 = .ok (.iadd, 1) := by decide +kernel
theorem dX1_at_97 : decode cX1_at 97 = .ok (.istore 4, 2) := by decide +kernel
theorem dX1_at_99 : decode cX1_at 99 = .ok (.iinc 5 1, 3) := by decide +kernel
theorem dX1_at_102 : decode cX1_at 102 = .ok (.goto (-48), 3) := by decide +kernel
theorem dX1_at_105 : decode cX1_at 105 = .ok (.iload 4, 2) := by decide +kernel
theorem dX1_at_107 : decode cX1_at 107 = .ok (.iload_n 1, 1) := by decide +kernel
theorem dX1_at_108 : decode cX1_at 108 = .ok (.if_icmp .ne 5, 3) := by decide +kernel
theorem dX1_at_111 : decode cX1_at 111 = .ok (.iload_n 3, 1) := by decide +kernel
theorem dX1_at_112 : decode cX1_at 112 = .ok (.ireturn, 1) := by decide +kernel
theorem dX1_at_113 : decode cX1_at 113 = .ok (.iinc 3 1, 3) := by decide +kernel
theorem dX1_at_116 : decode cX1_at 116 = .ok (.goto (-76), 3) := by decide +kernel
theorem dX1_at_119 : decode cX1_at 119 = .ok (.iconst (-1), 1) := by decide +kernel
theorem dX1_at_120 : decode cX1_at 120 = .ok (.ireturn, 1) := by decide +kernel
set_option maxRecDepth 20000 in
theorem ggX1_advise_X1_earliest : GoodIn wsX1_advise wsX1_earliest := goodIn_r _ [9, 10, 11, 3, 12, 13, 14, 8, 15, 4, 16, 17, 18, 19, 32, 33, 34, 35] (by decide +kernel) (by decide +kernel)
set_option maxRecDepth 20000 in
theorem gX1_advise_X1_earliest : GoodIn wsX1_advise (wsV RX1 35 RX1 yX1_earliest wsX1_earliest) := goodIn_app (goodIn_of _ (by decide +kernel)) ggX1_advise_X1_earliest
set_option maxRecDepth 20000 in
theorem ggX1_advise_X1_isFound : GoodIn wsX1_advise wsX1_isFound := goodIn_r _ [23] (by decide +kernel) (by decide +kernel)
set_option maxRecDepth 20000 in
theorem gX1_advise_X1_isFound : GoodIn wsX1_advise (wsV RX1 39 RX1 yX1_isFound wsX1_isFound) := goodIn_app (goodIn_of _ (by decide +kernel)) ggX1_advise_X1_isFound
set_option maxRecDepth 20000 in
theorem ggX1_advise_X1_last : GoodIn wsX1_advise wsX1_last := goodIn_r _ [27, 11, 28, 29, 30, 31, 32, 33, 34, 35] (by decide +kernel) (by decide +kernel)
set_option maxRecDepth 20000 in
theorem gX1_advise_X1_last : GoodIn wsX1_advise (wsV RX1 95 RX1 yX1_last wsX1_last) := goodIn_app (goodIn_of _ (by decide +kernel)) ggX1_advise_X1_last
set_option maxRecDepth 20000 in
theorem ggX1_advise_X1_isTied : GoodIn wsX1_advise wsX1_isTied := goodIn_r _ [19, 12, 13, 14, 8, 15, 4, 32, 33, 34, 35] (by decide +kernel) (by decide +kernel)
set_option maxRecDepth 20000 in
theorem gX1_advise_X1_isTied : GoodIn wsX1_advise (wsV RX1 31 RX1 yX1_isTied wsX1_isTied) := goodIn_app (goodIn_of _ (by decide +kernel)) ggX1_advise_X1_isTied
theorem dX1_advise_0 : decode cX1_advise 0 = .ok (.aload_n 0, 1) := by decide +kernel
theorem dX1_advise_1 : decode cX1_advise 1 = .ok (.iconst 0, 1) := by decide +kernel
theorem dX1_advise_2 : decode cX1_advise 2 = .ok (.putfield 13, 3) := by decide +kernel
theorem dX1_advise_5 : decode cX1_advise 5 = .ok (.aload_n 0, 1) := by decide +kernel
theorem dX1_advise_6 : decode cX1_advise 6 = .ok (.invokevirtual 35, 3) := by decide +kernel
theorem dX1_advise_9 : decode cX1_advise 9 = .ok (.astore_n 1, 1) := by decide +kernel
theorem dX1_advise_10 : decode cX1_advise 10 = .ok (.aload_n 0, 1) := by decide +kernel
theorem dX1_advise_11 : decode cX1_advise 11 = .ok (.aload_n 1, 1) := by decide +kernel
theorem dX1_advise_12 : decode cX1_advise 12 = .ok (.invokevirtual 39, 3) := by decide +kernel
theorem dX1_advise_15 : decode cX1_advise 15 = .ok (.ifCond .eq 11, 3) := by decide +kernel
theorem dX1_advise_18 : decode cX1_advise 18 = .ok (.aload_n 0, 1) := by decide +kernel
theorem dX1_advise_19 : decode cX1_advise 19 = .ok (.aload_n 1, 1) := by decide +kernel
theorem dX1_advise_20 : decode cX1_advise 20 = .ok (.invokevirtual 95, 3) := by decide +kernel
theorem dX1_advise_23 : decode cX1_advise 23 = .ok (.goto 5, 3) := by decide +kernel
theorem dX1_advise_26 : decode cX1_advise 26 = .ok (.ldc 109, 2) := by decide +kernel
theorem dX1_advise_28 : decode cX1_advise 28 = .ok (.istore_n 2, 1) := by decide +kernel
theorem dX1_advise_29 : decode cX1_advise 29 = .ok (.iconst (-1), 1) := by decide +kernel
theorem dX1_advise_30 : decode cX1_advise 30 = .ok (.istore_n 3, 1) := by decide +kernel
theorem dX1_advise_31 : decode cX1_advise 31 = .ok (.iconst 0, 1) := by decide +kernel
theorem dX1_advise_32 : decode cX1_advise 32 = .ok (.istore 4, 2) := by decide +kernel
theorem dX1_advise_34 : decode cX1_advise 34 = .ok (.iload 4, 2) := by decide +kernel
theorem dX1_advise_36 : decode cX1_advise 36 = .ok (.aload_n 0, 1) := by decide +kernel
theorem dX1_advise_37 : decode cX1_advise 37 = .ok (.getfield 24, 3) := by decide +kernel
theorem dX1_advise_40 : decode cX1_advise 40 = .ok (.if_icmp .ge 83, 3) := by decide +kernel
theorem dX1_advise_43 : decode cX1_advise 43 = .ok (.aload_n 0, 1) := by decide +kernel
theorem dX1_advise_44 : decode cX1_advise 44 = .ok (.iload 4, 2) := by decide +kernel
theorem dX1_advise_46 : decode cX1_advise 46 = .ok (.invokevirtual 31, 3) := by decide +kernel
theorem dX1_advise_49 : decode cX1_advise 49 = .ok (.ifCond .ne 6, 3) := by decide +kernel
theorem dX1_advise_52 : decode cX1_advise 52 = .ok (.goto 65, 3) := by decide +kernel
theorem dX1_advise_55 : decode cX1_advise 55 = .ok (.aload_n 0, 1) := by decide +kernel
theorem dX1_advise_56 : decode cX1_advise 56 = .ok (.getfield 9, 3) := by decide +kernel
theorem dX1_advise_59 : decode cX1_advise 59 = .ok (.iconst 4, 1) := by decide +kernel
theorem dX1_advise_60 : decode cX1_advise 60 = .ok (.iload 4, 2) := by decide +kernel
theorem dX1_advise_62 : decode cX1_advise 62 = .ok (.imul, 1) := by decide +kernel
theorem dX1_advise_63 : decode cX1_advise 63 = .ok (.iconst 3, 1) := by decide +kernel
theorem dX1_advise_64 : decode cX1_advise 64 = .ok (.iadd, 1) := by decide +kernel
theorem dX1_advise_65 : decode cX1_advise 65 = .ok (.iconst 0, 1) := by decide +kernel
theorem dX1_advise_66 : decode cX1_advise 66 = .ok (.iastore, 1) := by decide +kernel
theorem dX1_advise_67 : decode cX1_advise 67 = .ok (.aload_n 0, 1) := by decide +kernel
theorem dX1_advise_68 : decode cX1_advise 68 = .ok (.invokevirtual 35, 3) := by decide +kernel
theorem dX1_advise_71 : decode cX1_advise 71 = .ok (.astore 5, 2) := by decide +kernel
theorem dX1_advise_73 : decode cX1_advise 73 = .ok (.aload_n 0, 1) := by decide +kernel
theorem dX1_advise_74 : decode cX1_advise 74 = .ok (.getfield 9, 3) := by decide +kernel
theorem dX1_advise_77 : decode cX1_advise 77 = .ok (.iconst 4, 1) := by decide +kernel
theorem dX1_advise_78 : decode cX1_advise 78 = .ok (.iload 4, 2) := by decide +kernel
theorem dX1_advise_80 : decode cX1_advise 80 = .ok (.imul, 1) := by decide +kernel
theorem dX1_advise_81 : decode cX1_advise 81 = .ok (.iconst 3, 1) := by decide +kernel
theorem dX1_advise_82 : decode cX1_advise 82 = .ok (.iadd, 1) := by decide +kernel
theorem dX1_advise_83 : decode cX1_advise 83 = .ok (.iconst 1, 1) := by decide +kernel
theorem dX1_advise_84 : decode cX1_advise 84 = .ok (.iastore, 1) := by decide +kernel
theorem dX1_advise_85 : decode cX1_advise 85 = .ok (.aload_n 0, 1) := by decide +kernel
theorem dX1_advise_86 : decode cX1_advise 86 = .ok (.aload 5, 2) := by decide +kernel
theorem dX1_advise_88 : decode cX1_advise 88 = .ok (.invokevirtual 39, 3) := by decide +kernel
theorem dX1_advise_91 : decode cX1_advise 91 = .ok (.ifCond .eq 26, 3) := by decide +kernel
theorem dX1_advise_94 : decode cX1_advise 94 = .ok (.aload_n 0, 1) := by decide +kernel
theorem dX1_advise_95 : decode cX1_advise 95 = .ok (.aload 5, 2) := by decide +kernel
theorem dX1_advise_97 : decode cX1_advise 97 = .ok (.invokevirtual 95, 3) := by decide +kernel
theorem dX1_advise_100 : decode cX1_advise 100 = .ok (.iload_n 2, 1) := by decide +kernel
theorem dX1_advise_101 : decode cX1_advise 101 = .ok (.if_icmp .lt 6, 3) := by decide +kernel
theorem dX1_advise_104 : decode cX1_advise 104 = .ok (.goto 13, 3) := by decide +kernel
theorem dX1_advise_107 : decode cX1_advise 107 = .ok (.iload 4, 2) := by decide +kernel
theorem dX1_advise_109 : decode cX1_advise 109 = .ok (.istore_n 3, 1) := by decide +kernel
theorem dX1_advise_110 : decode cX1_advise 110 = .ok (.aload_n 0, 1) := by decide +kernel
theorem dX1_advise_111 : decode cX1_advise 111 = .ok (.aload 5, 2) := by decide +kernel
theorem dX1_advise_113 : decode cX1_advise 113 = .ok (.invokevirtual 95, 3) := by decide +kernel
theorem dX1_advise_116 : decode cX1_advise 116 = .ok (.istore_n 2, 1) := by decide +kernel
theorem dX1_advise_117 : decode cX1_advise 117 = .ok (.iinc 4 1, 3) := by decide +kernel
theorem dX1_advise_120 : decode cX1_advise 120 = .ok (.goto (-86), 3) := by decide +kernel
theorem dX1_advise_123 : decode cX1_advise 123 = .ok (.iload_n 3, 1) := by decide +kernel
theorem dX1_advise_124 : decode cX1_advise 124 = .ok (.ireturn, 1) := by decide +kernel
set_option maxRecDepth 20000 in
theorem ggX1_mean_X1_earliest : GoodIn wsX1_mean wsX1_earliest := goodIn_r _ [7, 8, 2, 9, 10, 11, 12, 6, 13, 14, 15, 16, 17, 18, 23, 24, 25, 26] (by decide +kernel) (by decide +kernel)
set_option maxRecDepth 20000 in
theorem gX1_mean_X1_earliest : GoodIn wsX1_mean (wsV RX1 35 RX1 yX1_earliest wsX1_earliest) := goodIn_app (goodIn_of _ (by decide +kernel)) ggX1_mean_X1_earliest
set_option maxRecDepth 20000 in
theorem ggX1_mean_X1_isFound : GoodIn wsX1_mean wsX1_isFound := goodIn_r _ [22] (by decide +kernel) (by decide +kernel)
set_option maxRecDepth 20000 in
theorem gX1_mean_X1_isFound : GoodIn wsX1_mean (wsV RX1 39 RX1 yX1_isFound wsX1_isFound) := goodIn_app (goodIn_of _ (by decide +kernel)) ggX1_mean_X1_isFound
theorem dX1_mean_0 : decode cX1_mean 0 = .ok (.aload_n 0, 1) := by decide +kernel
theorem dX1_mean_1 : decode cX1_mean 1 = .ok (.iconst 0, 1) := by decide +kernel
theorem dX1_mean_2 : decode cX1_mean 2 = .ok (.putfield 13, 3) := by decide +kernel
theorem dX1_mean_5 : decode cX1_mean 5 = .ok (.aload_n 0, 1) := by decide +kernel
theorem dX1_mean_6 : decode cX1_mean 6 = .ok (.invokevirtual 35, 3) := by decide +kernel
theorem dX1_mean_9 : decode cX1_mean 9 = .ok (.astore_n 1, 1) := by decide +kernel
theorem dX1_mean_10 : decode cX1_mean 10 = .ok (.iconst 0, 1) := by decide +kernel
theorem dX1_mean_11 : decode cX1_mean 11 = .ok (.istore_n 2, 1) := by decide +kernel
theorem dX1_mean_12 : decode cX1_mean 12 = .ok (.iconst 0, 1) := by decide +kernel
theorem dX1_mean_13 : decode cX1_mean 13 = .ok (.istore_n 3, 1) := by decide +kernel
theorem dX1_mean_14 : decode cX1_mean 14 = .ok (.iload_n 3, 1) := by decide +kernel
theorem dX1_mean_15 : decode cX1_mean 15 = .ok (.aload_n 0, 1) := by decide +kernel
theorem dX1_mean_16 : decode cX1_mean 16 = .ok (.getfield 17, 3) := by decide +kernel
theorem dX1_mean_19 : decode cX1_mean 19 = .ok (.if_icmp .ge 15, 3) := by decide +kernel
theorem dX1_mean_22 : decode cX1_mean 22 = .ok (.iload_n 2, 1) := by decide +kernel
theorem dX1_mean_23 : decode cX1_mean 23 = .ok (.aload_n 1, 1) := by decide +kernel
theorem dX1_mean_24 : decode cX1_mean 24 = .ok (.iload_n 3, 1) := by decide +kernel
theorem dX1_mean_25 : decode cX1_mean 25 = .ok (.iaload, 1) := by decide +kernel
theorem dX1_mean_26 : decode cX1_mean 26 = .ok (.iadd, 1) := by decide +kernel
theorem dX1_mean_27 : decode cX1_mean 27 = .ok (.istore_n 2, 1) := by decide +kernel
theorem dX1_mean_28 : decode cX1_mean 28 = .ok (.iinc 3 1, 3) := by decide +kernel
theorem dX1_mean_31 : decode cX1_mean 31 = .ok (.goto (-17), 3) := by decide +kernel
theorem dX1_mean_34 : decode cX1_mean 34 = .ok (.aload_n 0, 1) := by decide +kernel
theorem dX1_mean_35 : decode cX1_mean 35 = .ok (.getfield 17, 3) := by decide +kernel
theorem dX1_mean_38 : decode cX1_mean 38 = .ok (.ifCond .eq 11, 3) := by decide +kernel
theorem dX1_mean_41 : decode cX1_mean 41 = .ok (.aload_n 0, 1) := by decide +kernel
theorem dX1_mean_42 : decode cX1_mean 42 = .ok (.aload_n 1, 1) := by decide +kernel
theorem dX1_mean_43 : decode cX1_mean 43 = .ok (.invokevirtual 39, 3) := by decide +kernel
theorem dX1_mean_46 : decode cX1_mean 46 = .ok (.ifCond .ne 7, 3) := by decide +kernel
theorem dX1_mean_49 : decode cX1_mean 49 = .ok (.dconst 0, 1) := by decide +kernel
theorem dX1_mean_50 : decode cX1_mean 50 = .ok (.goto 11, 3) := by decide +kernel
theorem dX1_mean_53 : decode cX1_mean 53 = .ok (.iload_n 2, 1) := by decide +kernel
theorem dX1_mean_54 : decode cX1_mean 54 = .ok (.i2d, 1) := by decide +kernel
theorem dX1_mean_55 : decode cX1_mean 55 = .ok (.aload_n 0, 1) := by decide +kernel
theorem dX1_mean_56 : decode cX1_mean 56 = .ok (.getfield 17, 3) := by decide +kernel
theorem dX1_mean_59 : decode cX1_mean 59 = .ok (.i2d, 1) := by decide +kernel
theorem dX1_mean_60 : decode cX1_mean 60 = .ok (.ddiv, 1) := by decide +kernel
theorem dX1_mean_61 : decode cX1_mean 61 = .ok (.dreturn, 1) := by decide +kernel
set_option maxRecDepth 20000 in
theorem ggX1_digest_X1_earliest : GoodIn wsX1_digest wsX1_earliest := goodIn_r _ [10, 11, 4, 5, 12, 13, 14, 9, 15, 16, 17, 18, 19, 20, 62, 63, 64, 65] (by decide +kernel) (by decide +kernel)
set_option maxRecDepth 20000 in
theorem gX1_digest_X1_earliest : GoodIn wsX1_digest (wsV RX1 35 RX1 yX1_earliest wsX1_earliest) := goodIn_app (goodIn_of _ (by decide +kernel)) ggX1_digest_X1_earliest
set_option maxRecDepth 20000 in
theorem ggX1_digest_X1_counted : GoodIn wsX1_digest wsX1_counted := goodIn_r _ [24, 4, 5, 12, 13, 14, 9, 15, 16, 25, 26, 27, 28, 29, 30, 31, 32, 33, 34, 35, 36, 37, 38, 39, 40, 17, 18, 19, 20, 41, 42, 43, 44, 11, 45, 46, 47, 48, 62, 63, 64, 65] (by decide +kernel) (by decide +kernel)
set_option maxRecDepth 20000 in
theorem gX1_digest_X1_counted : GoodIn wsX1_digest (wsV RX1 103 RX1 yX1_counted wsX1_counted) := goodIn_app (goodIn_of _ (by decide +kernel)) ggX1_digest_X1_counted
set_option maxRecDepth 20000 in
theorem ggX1_digest_X1_turnTold : GoodIn wsX1_digest wsX1_turnTold := goodIn_r _ [52, 5, 25, 26, 27, 9, 28, 17, 18, 19, 20, 12, 13, 14, 15, 16, 62, 63, 64, 65] (by decide +kernel) (by decide +kernel)
set_option maxRecDepth 20000 in
theorem gX1_digest_X1_turnTold : GoodIn wsX1_digest (wsV RX1 92 RX1 yX1_turnTold wsX1_turnTold) := goodIn_app (goodIn_of _ (by decide +kernel)) ggX1_digest_X1_turnTold
set_option maxRecDepth 20000 in
theorem ggX1_digest_X1_ropeTold : GoodIn wsX1_digest wsX1_ropeTold := goodIn_r _ [56, 12, 13, 14, 9, 15, 16, 37, 38, 39, 40, 17, 18, 19, 20, 25, 26, 27, 28, 62, 63, 64, 65] (by decide +kernel) (by decide +kernel)
set_option maxRecDepth 20000 in
theorem gX1_digest_X1_ropeTold : GoodIn wsX1_digest (wsV RX1 88 RX1 yX1_ropeTold wsX1_ropeTold) := goodIn_app (goodIn_of _ (by decide +kernel)) ggX1_digest_X1_ropeTold
set_option maxRecDepth 20000 in
theorem ggX1_digest_X1_isFound : GoodIn wsX1_digest wsX1_isFound := goodIn_r _ [28] (by decide +kernel) (by decide +kernel)
set_option maxRecDepth 20000 in
theorem gX1_digest_X1_isFound : GoodIn wsX1_digest (wsV RX1 39 RX1 yX1_isFound wsX1_isFound) := goodIn_app (goodIn_of _ (by decide +kernel)) ggX1_digest_X1_isFound
set_option maxRecDepth 20000 in
theorem ggX1_digest_X1_ways : GoodIn wsX1_digest wsX1_ways := goodIn_r _ [60, 61, 11, 45, 5, 46, 47, 35, 48, 4, 17, 18, 19, 9, 20, 12, 13, 14, 15, 16, 62, 63, 64, 65] (by decide +kernel) (by decide +kernel)
set_option maxRecDepth 20000 in
theorem gX1_digest_X1_ways : GoodIn wsX1_digest (wsV RX1 54 RX1 yX1_ways wsX1_ways) := goodIn_app (goodIn_of _ (by decide +kernel)) ggX1_digest_X1_ways
theorem dX1_digest_0 : decode cX1_digest 0 = .ok (.aload_n 0, 1) := by decide +kernel
theorem dX1_digest_1 : decode cX1_digest 1 = .ok (.iconst 0, 1) := by decide +kernel
theorem dX1_digest_2 : decode cX1_digest 2 = .ok (.putfield 13, 3) := by decide +kernel
theorem dX1_digest_5 : decode cX1_digest 5 = .ok (.aload_n 0, 1) := by decide +kernel
theorem dX1_digest_6 : decode cX1_digest 6 = .ok (.invokevirtual 35, 3) := by decide +kernel
theorem dX1_digest_9 : decode cX1_digest 9 = .ok (.astore_n 1, 1) := by decide +kernel
theorem dX1_digest_10 : decode cX1_digest 10 = .ok (.ldc2_w 110, 3) := by decide +kernel
theorem dX1_digest_13 : decode cX1_digest 13 = .ok (.lstore_n 2, 1) := by decide +kernel
theorem dX1_digest_14 : decode cX1_digest 14 = .ok (.iconst 0, 1) := by decide +kernel
theorem dX1_digest_15 : decode cX1_digest 15 = .ok (.istore 4, 2) := by decide +kernel
theorem dX1_digest_17 : decode cX1_digest 17 = .ok (.iload 4, 2) := by decide +kernel
theorem dX1_digest_19 : decode cX1_digest 19 = .ok (.bipush 7, 2) := by decide +kernel
theorem dX1_digest_21 : decode cX1_digest 21 = .ok (.if_icmp .ge 24, 3) := by decide +kernel
theorem dX1_digest_24 : decode cX1_digest 24 = .ok (.lload_n 2, 1) := by decide +kernel
theorem dX1_digest_25 : decode cX1_digest 25 = .ok (.ldc2_w 112, 3) := by decide +kernel
theorem dX1_digest_28 : decode cX1_digest 28 = .ok (.lmul, 1) := by decide +kernel
theorem dX1_digest_29 : decode cX1_digest 29 = .ok (.aload_n 0, 1) := by decide +kernel
theorem dX1_digest_30 : decode cX1_digest 30 = .ok (.iload 4, 2) := by decide +kernel
theorem dX1_digest_32 : decode cX1_digest 32 = .ok (.aload_n 1, 1) := by decide +kernel
theorem dX1_digest_33 : decode cX1_digest 33 = .ok (.invokevirtual 103, 3) := by decide +kernel
theorem dX1_digest_36 : decode cX1_digest 36 = .ok (.i2l, 1) := by decide +kernel
theorem dX1_digest_37 : decode cX1_digest 37 = .ok (.ladd, 1) := by decide +kernel
theorem dX1_digest_38 : decode cX1_digest 38 = .ok (.lstore_n 2, 1) := by decide +kernel
theorem dX1_digest_39 : decode cX1_digest 39 = .ok (.iinc 4 1, 3) := by decide +kernel
theorem dX1_digest_42 : decode cX1_digest 42 = .ok (.goto (-25), 3) := by decide +kernel
theorem dX1_digest_45 : decode cX1_digest 45 = .ok (.iconst 0, 1) := by decide +kernel
theorem dX1_digest_46 : decode cX1_digest 46 = .ok (.istore 4, 2) := by decide +kernel
theorem dX1_digest_48 : decode cX1_digest 48 = .ok (.iload 4, 2) := by decide +kernel
theorem dX1_digest_50 : decode cX1_digest 50 = .ok (.aload_n 0, 1) := by decide +kernel
theorem dX1_digest_51 : decode cX1_digest 51 = .ok (.getfield 17, 3) := by decide +kernel
theorem dX1_digest_54 : decode cX1_digest 54 = .ok (.if_icmp .ge 41, 3) := by decide +kernel
theorem dX1_digest_57 : decode cX1_digest 57 = .ok (.iconst 0, 1) := by decide +kernel
theorem dX1_digest_58 : decode cX1_digest 58 = .ok (.istore 5, 2) := by decide +kernel
theorem dX1_digest_60 : decode cX1_digest 60 = .ok (.iload 5, 2) := by decide +kernel
theorem dX1_digest_62 : decode cX1_digest 62 = .ok (.iconst 3, 1) := by decide +kernel
theorem dX1_digest_63 : decode cX1_digest 63 = .ok (.if_icmp .ge 26, 3) := by decide +kernel
theorem dX1_digest_66 : decode cX1_digest 66 = .ok (.lload_n 2, 1) := by decide +kernel
theorem dX1_digest_67 : decode cX1_digest 67 = .ok (.ldc2_w 112, 3) := by decide +kernel
theorem dX1_digest_70 : decode cX1_digest 70 = .ok (.lmul, 1) := by decide +kernel
theorem dX1_digest_71 : decode cX1_digest 71 = .ok (.aload_n 0, 1) := by decide +kernel
theorem dX1_digest_72 : decode cX1_digest 72 = .ok (.iload 4, 2) := by decide +kernel
theorem dX1_digest_74 : decode cX1_digest 74 = .ok (.iload 5, 2) := by decide +kernel
theorem dX1_digest_76 : decode cX1_digest 76 = .ok (.aload_n 1, 1) := by decide +kernel
theorem dX1_digest_77 : decode cX1_digest 77 = .ok (.invokevirtual 92, 3) := by decide +kernel
theorem dX1_digest_80 : decode cX1_digest 80 = .ok (.i2l, 1) := by decide +kernel
theorem dX1_digest_81 : decode cX1_digest 81 = .ok (.ladd, 1) := by decide +kernel
theorem dX1_digest_82 : decode cX1_digest 82 = .ok (.lstore_n 2, 1) := by decide +kernel
theorem dX1_digest_83 : decode cX1_digest 83 = .ok (.iinc 5 1, 3) := by decide +kernel
theorem dX1_digest_86 : decode cX1_digest 86 = .ok (.goto (-26), 3) := by decide +kernel
theorem dX1_digest_89 : decode cX1_digest 89 = .ok (.iinc 4 1, 3) := by decide +kernel
theorem dX1_digest_92 : decode cX1_digest 92 = .ok (.goto (-44), 3) := by decide +kernel
theorem dX1_digest_95 : decode cX1_digest 95 = .ok (.iconst 0, 1) := by decide +kernel
theorem dX1_digest_96 : decode cX1_digest 96 = .ok (.istore 4, 2) := by decide +kernel
theorem dX1_digest_98 : decode cX1_digest 98 = .ok (.iload 4, 2) := by decide +kernel
theorem dX1_digest_100 : decode cX1_digest 100 = .ok (.aload_n 0, 1) := by decide +kernel
theorem dX1_digest_101 : decode cX1_digest 101 = .ok (.getfield 24, 3) := by decide +kernel
theorem dX1_digest_104 : decode cX1_digest 104 = .ok (.if_icmp .ge 41, 3) := by decide +kernel
theorem dX1_digest_107 : decode cX1_digest 107 = .ok (.iconst 0, 1) := by decide +kernel
theorem dX1_digest_108 : decode cX1_digest 108 = .ok (.istore 5, 2) := by decide +kernel
theorem dX1_digest_110 : decode cX1_digest 110 = .ok (.iload 5, 2) := by decide +kernel
theorem dX1_digest_112 : decode cX1_digest 112 = .ok (.iconst 5, 1) := by decide +kernel
theorem dX1_digest_113 : decode cX1_digest 113 = .ok (.if_icmp .ge 26, 3) := by decide +kernel
theorem dX1_digest_116 : decode cX1_digest 116 = .ok (.lload_n 2, 1) := by decide +kernel
theorem dX1_digest_117 : decode cX1_digest 117 = .ok (.ldc2_w 112, 3) := by decide +kernel
theorem dX1_digest_120 : decode cX1_digest 120 = .ok (.lmul, 1) := by decide +kernel
theorem dX1_digest_121 : decode cX1_digest 121 = .ok (.aload_n 0, 1) := by decide +kernel
theorem dX1_digest_122 : decode cX1_digest 122 = .ok (.iload 4, 2) := by decide +kernel
theorem dX1_digest_124 : decode cX1_digest 124 = .ok (.iload 5, 2) := by decide +kernel
theorem dX1_digest_126 : decode cX1_digest 126 = .ok (.aload_n 1, 1) := by decide +kernel
theorem dX1_digest_127 : decode cX1_digest 127 = .ok (.invokevirtual 88, 3) := by decide +kernel
theorem dX1_digest_130 : decode cX1_digest 130 = .ok (.i2l, 1) := by decide +kernel
theorem dX1_digest_131 : decode cX1_digest 131 = .ok (.ladd, 1) := by decide +kernel
theorem dX1_digest_132 : decode cX1_digest 132 = .ok (.lstore_n 2, 1) := by decide +kernel
theorem dX1_digest_133 : decode cX1_digest 133 = .ok (.iinc 5 1, 3) := by decide +kernel
theorem dX1_digest_136 : decode cX1_digest 136 = .ok (.goto (-26), 3) := by decide +kernel
theorem dX1_digest_139 : decode cX1_digest 139 = .ok (.iinc 4 1, 3) := by decide +kernel
theorem dX1_digest_142 : decode cX1_digest 142 = .ok (.goto (-44), 3) := by decide +kernel
theorem dX1_digest_145 : decode cX1_digest 145 = .ok (.aload_n 0, 1) := by decide +kernel
theorem dX1_digest_146 : decode cX1_digest 146 = .ok (.aload_n 1, 1) := by decide +kernel
theorem dX1_digest_147 : decode cX1_digest 147 = .ok (.invokevirtual 39, 3) := by decide +kernel
theorem dX1_digest_150 : decode cX1_digest 150 = .ok (.ifCond .ne 5, 3) := by decide +kernel
theorem dX1_digest_153 : decode cX1_digest 153 = .ok (.lload_n 2, 1) := by decide +kernel
theorem dX1_digest_154 : decode cX1_digest 154 = .ok (.lreturn, 1) := by decide +kernel
theorem dX1_digest_155 : decode cX1_digest 155 = .ok (.aload_n 0, 1) := by decide +kernel
theorem dX1_digest_156 : decode cX1_digest 156 = .ok (.invokevirtual 54, 3) := by decide +kernel
theorem dX1_digest_159 : decode cX1_digest 159 = .ok (.astore 4, 2) := by decide +kernel
theorem dX1_digest_161 : decode cX1_digest 161 = .ok (.iconst 0, 1) := by decide +kernel
theorem dX1_digest_162 : decode cX1_digest 162 = .ok (.istore 5, 2) := by decide +kernel
theorem dX1_digest_164 : decode cX1_digest 164 = .ok (.iload 5, 2) := by decide +kernel
theorem dX1_digest_166 : decode cX1_digest 166 = .ok (.aload_n 0, 1) := by decide +kernel
theorem dX1_digest_167 : decode cX1_digest 167 = .ok (.getfield 17, 3) := by decide +kernel
theorem dX1_digest_170 : decode cX1_digest 170 = .ok (.if_icmp .ge 43, 3) := by decide +kernel
theorem dX1_digest_173 : decode cX1_digest 173 = .ok (.iconst 0, 1) := by decide +kernel
theorem dX1_digest_174 : decode cX1_digest 174 = .ok (.istore 6, 2) := by decide +kernel
theorem dX1_digest_176 : decode cX1_digest 176 = .ok (.iload 6, 2) := by decide +kernel
theorem dX1_digest_178 : decode cX1_digest 178 = .ok (.aload_n 0, 1) := by decide +kernel
theorem dX1_digest_179 : decode cX1_digest 179 = .ok (.getfield 17, 3) := by decide +kernel
theorem dX1_digest_182 : decode cX1_digest 182 = .ok (.if_icmp .ge 25, 3) := by decide +kernel
theorem dX1_digest_185 : decode cX1_digest 185 = .ok (.lload_n 2, 1) := by decide +kernel
theorem dX1_digest_186 : decode cX1_digest 186 = .ok (.ldc2_w 112, 3) := by decide +kernel
theorem dX1_digest_189 : decode cX1_digest 189 = .ok (.lmul, 1) := by decide +kernel
theorem dX1_digest_190 : decode cX1_digest 190 = .ok (.aload 4, 2) := by decide +kernel
theorem dX1_digest_192 : decode cX1_digest 192 = .ok (.iload 5, 2) := by decide +kernel
theorem dX1_digest_194 : decode cX1_digest 194 = .ok (.aaload, 1) := by decide +kernel
theorem dX1_digest_195 : decode cX1_digest 195 = .ok (.iload 6, 2) := by decide +kernel
theorem dX1_digest_197 : decode cX1_digest 197 = .ok (.iaload, 1) := by decide +kernel
theorem dX1_digest_198 : decode cX1_digest 198 = .ok (.i2l, 1) := by decide +kernel
theorem dX1_digest_199 : decode cX1_digest 199 = .ok (.ladd, 1) := by decide +kernel
theorem dX1_digest_200 : decode cX1_digest 200 = .ok (.lstore_n 2, 1) := by decide +kernel
theorem dX1_digest_201 : decode cX1_digest 201 = .ok (.iinc 6 1, 3) := by decide +kernel
theorem dX1_digest_204 : decode cX1_digest 204 = .ok (.goto (-28), 3) := by decide +kernel
theorem dX1_digest_207 : decode cX1_digest 207 = .ok (.iinc 5 1, 3) := by decide +kernel
theorem dX1_digest_210 : decode cX1_digest 210 = .ok (.goto (-46), 3) := by decide +kernel
theorem dX1_digest_213 : decode cX1_digest 213 = .ok (.lload_n 2, 1) := by decide +kernel
theorem dX1_digest_214 : decode cX1_digest 214 = .ok (.lreturn, 1) := by decide +kernel
