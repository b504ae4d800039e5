theorem dX1_init_0 : decode cX1_init 0 = .ok (.aload_n 0, 1) := by decide +kernel
theorem dX1_init_1 : decode cX1_init 1 = .ok (.invokespecial 3, 3) := by decide +kernel
theorem dX1_init_4 : decode cX1_init 4 = .ok (.aload_n 0, 1) := by decide +kernel
theorem dX1_init_5 : decode cX1_init 5 = .ok (.iconst 0, 1) := by decide +kernel
theorem dX1_init_6 : decode cX1_init 6 = .ok (.anewarray 9, 3) := by decide +kernel
theorem dX1_init_9 : decode cX1_init 9 = .ok (.putfield 11, 3) := by decide +kernel
theorem dX1_init_12 : decode cX1_init 12 = .ok (.return_, 1) := by decide +kernel
set_option maxRecDepth 20000 in
theorem ggX1_copy_X1_init : GoodIn wsX1_copy wsX1_init := goodIn_r _ [14, 15, 16, 17, 6, 5, 18, 19] (by decide +kernel) (by decide +kernel)
set_option maxRecDepth 20000 in
theorem gX1_copy_X1_init : GoodIn wsX1_copy (wsX1_init) := ggX1_copy_X1_init
theorem dX1_copy_0 : decode cX1_copy 0 = .ok (.new 12, 3) := by decide +kernel
theorem dX1_copy_3 : decode cX1_copy 3 = .ok (.dup, 1) := by decide +kernel
theorem dX1_copy_4 : decode cX1_copy 4 = .ok (.invokespecial 17, 3) := by decide +kernel
theorem dX1_copy_7 : decode cX1_copy 7 = .ok (.astore_n 1, 1) := by decide +kernel
theorem dX1_copy_8 : decode cX1_copy 8 = .ok (.aload_n 1, 1) := by decide +kernel
theorem dX1_copy_9 : decode cX1_copy 9 = .ok (.aload_n 0, 1) := by decide +kernel
theorem dX1_copy_10 : decode cX1_copy 10 = .ok (.getfield 18, 3) := by decide +kernel
theorem dX1_copy_13 : decode cX1_copy 13 = .ok (.putfield 18, 3) := by decide +kernel
theorem dX1_copy_16 : decode cX1_copy 16 = .ok (.aload_n 1, 1) := by decide +kernel
theorem dX1_copy_17 : decode cX1_copy 17 = .ok (.aload_n 0, 1) := by decide +kernel
theorem dX1_copy_18 : decode cX1_copy 18 = .ok (.getfield 11, 3) := by decide +kernel
theorem dX1_copy_21 : decode cX1_copy 21 = .ok (.arraylength, 1) := by decide +kernel
theorem dX1_copy_22 : decode cX1_copy 22 = .ok (.anewarray 9, 3) := by decide +kernel
theorem dX1_copy_25 : decode cX1_copy 25 = .ok (.putfield 11, 3) := by decide +kernel
theorem dX1_copy_28 : decode cX1_copy 28 = .ok (.iconst 0, 1) := by decide +kernel
theorem dX1_copy_29 : decode cX1_copy 29 = .ok (.istore_n 2, 1) := by decide +kernel
theorem dX1_copy_30 : decode cX1_copy 30 = .ok (.iload_n 2, 1) := by decide +kernel
theorem dX1_copy_31 : decode cX1_copy 31 = .ok (.aload_n 0, 1) := by decide +kernel
theorem dX1_copy_32 : decode cX1_copy 32 = .ok (.getfield 11, 3) := by decide +kernel
theorem dX1_copy_35 : decode cX1_copy 35 = .ok (.arraylength, 1) := by decide +kernel
theorem dX1_copy_36 : decode cX1_copy 36 = .ok (.if_icmp .ge 27, 3) := by decide +kernel
theorem dX1_copy_39 : decode cX1_copy 39 = .ok (.aload_n 1, 1) := by decide +kernel
theorem dX1_copy_40 : decode cX1_copy 40 = .ok (.getfield 11, 3) := by decide +kernel
theorem dX1_copy_43 : decode cX1_copy 43 = .ok (.iload_n 2, 1) := by decide +kernel
theorem dX1_copy_44 : decode cX1_copy 44 = .ok (.aload_n 0, 1) := by decide +kernel
theorem dX1_copy_45 : decode cX1_copy 45 = .ok (.getfield 11, 3) := by decide +kernel
theorem dX1_copy_48 : decode cX1_copy 48 = .ok (.iload_n 2, 1) := by decide +kernel
theorem dX1_copy_49 : decode cX1_copy 49 = .ok (.aaload, 1) := by decide +kernel
theorem dX1_copy_50 : decode cX1_copy 50 = .ok (.invokevirtual 22, 3) := by decide +kernel
theorem dX1_copy_53 : decode cX1_copy 53 = .ok (.checkcast 9, 3) := by decide +kernel
theorem dX1_copy_56 : decode cX1_copy 56 = .ok (.aastore, 1) := by decide +kernel
theorem dX1_copy_57 : decode cX1_copy 57 = .ok (.iinc 2 1, 3) := by decide +kernel
theorem dX1_copy_60 : decode cX1_copy 60 = .ok (.goto (-30), 3) := by decide +kernel
theorem dX1_copy_63 : decode cX1_copy 63 = .ok (.aload_n 1, 1) := by decide +kernel
theorem dX1_copy_64 : decode cX1_copy 64 = .ok (.areturn, 1) := by decide +kernel
theorem dX1_ways_0 : decode cX1_ways 0 = .ok (.aload_n 0, 1) := by decide +kernel
theorem dX1_ways_1 : decode cX1_ways 1 = .ok (.getfield 18, 3) := by decide +kernel
theorem dX1_ways_4 : decode cX1_ways 4 = .ok (.aload_n 0, 1) := by decide +kernel
theorem dX1_ways_5 : decode cX1_ways 5 = .ok (.getfield 18, 3) := by decide +kernel
theorem dX1_ways_8 : decode cX1_ways 8 = .ok (.multianewarray 26 2, 4) := by decide +kernel
theorem dX1_ways_12 : decode cX1_ways 12 = .ok (.astore_n 1, 1) := by decide +kernel
theorem dX1_ways_13 : decode cX1_ways 13 = .ok (.iconst 0, 1) := by decide +kernel
theorem dX1_ways_14 : decode cX1_ways 14 = .ok (.istore_n 2, 1) := by decide +kernel
theorem dX1_ways_15 : decode cX1_ways 15 = .ok (.iload_n 2, 1) := by decide +kernel
theorem dX1_ways_16 : decode cX1_ways 16 = .ok (.aload_n 0, 1) := by decide +kernel
theorem dX1_ways_17 : decode cX1_ways 17 = .ok (.getfield 18, 3) := by decide +kernel
theorem dX1_ways_20 : decode cX1_ways 20 = .ok (.if_icmp .ge 41, 3) := by decide +kernel
theorem dX1_ways_23 : decode cX1_ways 23 = .ok (.iconst 0, 1) := by decide +kernel
theorem dX1_ways_24 : decode cX1_ways 24 = .ok (.istore_n 3, 1) := by decide +kernel
theorem dX1_ways_25 : decode cX1_ways 25 = .ok (.iload_n 3, 1) := by decide +kernel
theorem dX1_ways_26 : decode cX1_ways 26 = .ok (.aload_n 0, 1) := by decide +kernel
theorem dX1_ways_27 : decode cX1_ways 27 = .ok (.getfield 18, 3) := by decide +kernel
theorem dX1_ways_30 : decode cX1_ways 30 = .ok (.if_icmp .ge 25, 3) := by decide +kernel
theorem dX1_ways_33 : decode cX1_ways 33 = .ok (.aload_n 1, 1) := by decide +kernel
theorem dX1_ways_34 : decode cX1_ways 34 = .ok (.iload_n 2, 1) := by decide +kernel
theorem dX1_ways_35 : decode cX1_ways 35 = .ok (.aaload, 1) := by decide +kernel
theorem dX1_ways_36 : decode cX1_ways 36 = .ok (.iload_n 3, 1) := by decide +kernel
theorem dX1_ways_37 : decode cX1_ways 37 = .ok (.iload_n 2, 1) := by decide +kernel
theorem dX1_ways_38 : decode cX1_ways 38 = .ok (.iload_n 3, 1) := by decide +kernel
theorem dX1_ways_39 : decode cX1_ways 39 = .ok (.if_icmp .ne 7, 3) := by decide +kernel
theorem dX1_ways_42 : decode cX1_ways 42 = .ok (.iconst 0, 1) := by decide +kernel
theorem dX1_ways_43 : decode cX1_ways 43 = .ok (.goto 5, 3) := by decide +kernel
theorem dX1_ways_46 : decode cX1_ways 46 = .ok (.ldc 27, 2) := by decide +kernel
theorem dX1_ways_48 : decode cX1_ways 48 = .ok (.iastore, 1) := by decide +kernel
theorem dX1_ways_49 : decode cX1_ways 49 = .ok (.iinc 3 1, 3) := by decide +kernel
theorem dX1_ways_52 : decode cX1_ways 52 = .ok (.goto (-27), 3) := by decide +kernel
theorem dX1_ways_55 : decode cX1_ways 55 = .ok (.iinc 2 1, 3) := by decide +kernel
theorem dX1_ways_58 : decode cX1_ways 58 = .ok (.goto (-43), 3) := by decide +kernel
theorem dX1_ways_61 : decode cX1_ways 61 = .ok (.iconst 0, 1) := by decide +kernel
theorem dX1_ways_62 : decode cX1_ways 62 = .ok (.istore_n 2, 1) := by decide +kernel
theorem dX1_ways_63 : decode cX1_ways 63 = .ok (.iload_n 2, 1) := by decide +kernel
theorem dX1_ways_64 : decode cX1_ways 64 = .ok (.aload_n 0, 1) := by decide +kernel
theorem dX1_ways_65 : decode cX1_ways 65 = .ok (.getfield 18, 3) := by decide +kernel
theorem dX1_ways_68 : decode cX1_ways 68 = .ok (.if_icmp .gt 144, 3) := by decide +kernel
theorem dX1_ways_71 : decode cX1_ways 71 = .ok (.iconst 0, 1) := by decide +kernel
theorem dX1_ways_72 : decode cX1_ways 72 = .ok (.istore_n 3, 1) := by decide +kernel
theorem dX1_ways_73 : decode cX1_ways 73 = .ok (.iconst 0, 1) := by decide +kernel
theorem dX1_ways_74 : decode cX1_ways 74 = .ok (.istore 4, 2) := by decide +kernel
theorem dX1_ways_76 : decode cX1_ways 76 = .ok (.iload 4, 2) := by decide +kernel
theorem dX1_ways_78 : decode cX1_ways 78 = .ok (.aload_n 0, 1) := by decide +kernel
theorem dX1_ways_79 : decode cX1_ways 79 = .ok (.getfield 18, 3) := by decide +kernel
theorem dX1_ways_82 : decode cX1_ways 82 = .ok (.if_icmp .ge 118, 3) := by decide +kernel
theorem dX1_ways_85 : decode cX1_ways 85 = .ok (.aload_n 0, 1) := by decide +kernel
theorem dX1_ways_86 : decode cX1_ways 86 = .ok (.getfield 11, 3) := by decide +kernel
theorem dX1_ways_89 : decode cX1_ways 89 = .ok (.astore 5, 2) := by decide +kernel
theorem dX1_ways_91 : decode cX1_ways 91 = .ok (.aload 5, 2) := by decide +kernel
theorem dX1_ways_93 : decode cX1_ways 93 = .ok (.arraylength, 1) := by decide +kernel
theorem dX1_ways_94 : decode cX1_ways 94 = .ok (.istore 6, 2) := by decide +kernel
theorem dX1_ways_96 : decode cX1_ways 96 = .ok (.iconst 0, 1) := by decide +kernel
theorem dX1_ways_97 : decode cX1_ways 97 = .ok (.istore 7, 2) := by decide +kernel
theorem dX1_ways_99 : decode cX1_ways 99 = .ok (.iload 7, 2) := by decide +kernel
theorem dX1_ways_101 : decode cX1_ways 101 = .ok (.iload 6, 2) := by decide +kernel
theorem dX1_ways_103 : decode cX1_ways 103 = .ok (.if_icmp .ge 91, 3) := by decide +kernel
theorem dX1_ways_106 : decode cX1_ways 106 = .ok (.aload 5, 2) := by decide +kernel
theorem dX1_ways_108 : decode cX1_ways 108 = .ok (.iload 7, 2) := by decide +kernel
theorem dX1_ways_110 : decode cX1_ways 110 = .ok (.aaload, 1) := by decide +kernel
theorem dX1_ways_111 : decode cX1_ways 111 = .ok (.astore 8, 2) := by decide +kernel
theorem dX1_ways_113 : decode cX1_ways 113 = .ok (.aload 8, 2) := by decide +kernel
theorem dX1_ways_115 : decode cX1_ways 115 = .ok (.iconst 3, 1) := by decide +kernel
theorem dX1_ways_116 : decode cX1_ways 116 = .ok (.iaload, 1) := by decide +kernel
theorem dX1_ways_117 : decode cX1_ways 117 = .ok (.ifCond .eq 71, 3) := by decide +kernel
theorem dX1_ways_120 : decode cX1_ways 120 = .ok (.aload_n 1, 1) := by decide +kernel
theorem dX1_ways_121 : decode cX1_ways 121 = .ok (.iload 4, 2) := by decide +kernel
theorem dX1_ways_123 : decode cX1_ways 123 = .ok (.aaload, 1) := by decide +kernel
theorem dX1_ways_124 : decode cX1_ways 124 = .ok (.aload 8, 2) := by decide +kernel
theorem dX1_ways_126 : decode cX1_ways 126 = .ok (.iconst 0, 1) := by decide +kernel
theorem dX1_ways_127 : decode cX1_ways 127 = .ok (.iaload, 1) := by decide +kernel
theorem dX1_ways_128 : decode cX1_ways 128 = .ok (.iaload, 1) := by decide +kernel
theorem dX1_ways_129 : decode cX1_ways 129 = .ok (.ldc 27, 2) := by decide +kernel
theorem dX1_ways_131 : decode cX1_ways 131 = .ok (.if_icmp .eq 57, 3) := by decide +kernel
theorem dX1_ways_134 : decode cX1_ways 134 = .ok (.aload_n 1, 1) := by decide +kernel
theorem dX1_ways_135 : decode cX1_ways 135 = .ok (.iload 4, 2) := by decide +kernel
theorem dX1_ways_137 : decode cX1_ways 137 = .ok (.aaload, 1) := by decide +kernel
theorem dX1_ways_138 : decode cX1_ways 138 = .ok (.aload 8, 2) := by decide +kernel
theorem dX1_ways_140 : decode cX1_ways 140 = .ok (.iconst 0, 1) := by decide +kernel
theorem dX1_ways_141 : decode cX1_ways 141 = .ok (.iaload, 1) := by decide +kernel
theorem dX1_ways_142 : decode cX1_ways 142 = .ok (.iaload, 1) := by decide +kernel
theorem dX1_ways_143 : decode cX1_ways 143 = .ok (.aload 8, 2) := by decide +kernel
theorem dX1_ways_145 : decode cX1_ways 145 = .ok (.iconst 2, 1) := by decide +kernel
theorem dX1_ways_146 : decode cX1_ways 146 = .ok (.iaload, 1) := by decide +kernel
theorem dX1_ways_147 : decode cX1_ways 147 = .ok (.iadd, 1) := by decide +kernel
theorem dX1_ways_148 : decode cX1_ways 148 = .ok (.aload_n 1, 1) := by decide +kernel
theorem dX1_ways_149 : decode cX1_ways 149 = .ok (.iload 4, 2) := by decide +kernel
theorem dX1_ways_151 : decode cX1_ways 151 = .ok (.aaload, 1) := by decide +kernel
theorem dX1_ways_152 : decode cX1_ways 152 = .ok (.aload 8, 2) := by decide +kernel
theorem dX1_ways_154 : decode cX1_ways 154 = .ok (.iconst 1, 1) := by decide +kernel
theorem dX1_ways_155 : decode cX1_ways 155 = .ok (.iaload, 1) := by decide +kernel
theorem dX1_ways_156 : decode cX1_ways 156 = .ok (.iaload, 1) := by decide +kernel
theorem dX1_ways_157 : decode cX1_ways 157 = .ok (.if_icmp .lt 6, 3) := by decide +kernel
theorem dX1_ways_160 : decode cX1_ways 160 = .ok (.goto 28, 3) := by decide +kernel
theorem dX1_ways_163 : decode cX1_ways 163 = .ok (.aload_n 1, 1) := by decide +kernel
theorem dX1_ways_164 : decode cX1_ways 164 = .ok (.iload 4, 2) := by decide +kernel
theorem dX1_ways_166 : decode cX1_ways 166 = .ok (.aaload, 1) := by decide +kernel
theorem dX1_ways_167 : decode cX1_ways 167 = .ok (.aload 8, 2) := by decide +kernel
theorem dX1_ways_169 : decode cX1_ways 169 = .ok (.iconst 1, 1) := by decide +kernel
theorem dX1_ways_170 : decode cX1_ways 170 = .ok (.iaload, 1) := by decide +kernel
theorem dX1_ways_171 : decode cX1_ways 171 = .ok (.aload_n 1, 1) := by decide +kernel
theorem dX1_ways_172 : decode cX1_ways 172 = .ok (.iload 4, 2) := by decide +kernel
theorem dX1_ways_174 : decode cX1_ways 174 = .ok (.aaload, 1) := by decide +kernel
theorem dX1_ways_175 : decode cX1_ways 175 = .ok (.aload 8, 2) := by decide +kernel
theorem dX1_ways_177 : decode cX1_ways 177 = .ok (.iconst 0, 1) := by decide +kernel
theorem dX1_ways_178 : decode cX1_ways 178 = .ok (.iaload, 1) := by decide +kernel
theorem dX1_ways_179 : decode cX1_ways 179 = .ok (.iaload, 1) := by decide +kernel
theorem dX1_ways_180 : decode cX1_ways 180 = .ok (.aload 8, 2) := by decide +kernel
theorem dX1_ways_182 : decode cX1_ways 182 = .ok (.iconst 2, 1) := by decide +kernel
theorem dX1_ways_183 : decode cX1_ways 183 = .ok (.iaload, 1) := by decide +kernel
theorem dX1_ways_184 : decode cX1_ways 184 = .ok (.iadd, 1) := by decide +kernel
theorem dX1_ways_185 : decode cX1_ways 185 = .ok (.iastore, 1) := by decide +kernel
theorem dX1_ways_186 : decode cX1_ways 186 = .ok (.iconst 1, 1) := by decide +kernel
theorem dX1_ways_187 : decode cX1_ways 187 = .ok (.istore_n 3, 1) := by decide +kernel
theorem dX1_ways_188 : decode cX1_ways 188 = .ok (.iinc 7 1, 3) := by decide +kernel
theorem dX1_ways_191 : decode cX1_ways 191 = .ok (.goto (-92), 3) := by decide +kernel
theorem dX1_ways_194 : decode cX1_ways 194 = .ok (.iinc 4 1, 3) := by decide +kernel
theorem dX1_ways_197 : decode cX1_ways 197 = .ok (.goto (-121), 3) := by decide +kernel
theorem dX1_ways_200 : decode cX1_ways 200 = .ok (.iload_n 3, 1) := by decide +kernel
theorem dX1_ways_201 : decode cX1_ways 201 = .ok (.ifCond .ne 5, 3) := by decide +kernel
theorem dX1_ways_204 : decode cX1_ways 204 = .ok (.aload_n 1, 1) := by decide +kernel
theorem dX1_ways_205 : decode cX1_ways 205 = .ok (.areturn, 1) := by decide +kernel
theorem dX1_ways_206 : decode cX1_ways 206 = .ok (.iinc 2 1, 3) := by decide +kernel
theorem dX1_ways_209 : decode cX1_ways 209 = .ok (.goto (-146), 3) := by decide +kernel
theorem dX1_ways_212 : decode cX1_ways 212 = .ok (.aconst_null, 1) := by decide +kernel
theorem dX1_ways_213 : decode cX1_ways 213 = .ok (.areturn, 1) := by decide +kernel
set_option maxRecDepth 20000 in
theorem ggX1_times_X1_ways : GoodIn wsX1_times wsX1_ways := goodIn_r _ [11, 1, 12, 2, 13, 14, 15, 16] (by decide +kernel) (by decide +kernel)
set_option maxRecDepth 20000 in
theorem gX1_times_X1_ways : GoodIn wsX1_times (wsV RX1 28 RX1 yX1_ways wsX1_ways) := goodIn_app (goodIn_of _ (by decide +kernel)) ggX1_times_X1_ways
theorem dX1_times_0 : decode cX1_times 0 = .ok (.aload_n 0, 1) := by decide +kernel
theorem dX1_times_1 : decode cX1_times 1 = .ok (.invokevirtual 28, 3) := by decide +kernel
theorem dX1_times_4 : decode cX1_times 4 = .ok (.astore_n 1, 1) := by decide +kernel
theorem dX1_times_5 : decode cX1_times 5 = .ok (.aload_n 1, 1) := by decide +kernel
theorem dX1_times_6 : decode cX1_times 6 = .ok (.ifnonnull 5, 3) := by decide +kernel
theorem dX1_times_9 : decode cX1_times 9 = .ok (.aconst_null, 1) := by decide +kernel
theorem dX1_times_10 : decode cX1_times 10 = .ok (.areturn, 1) := by decide +kernel
theorem dX1_times_11 : decode cX1_times 11 = .ok (.aload_n 0, 1) := by decide +kernel
theorem dX1_times_12 : decode cX1_times 12 = .ok (.getfield 18, 3) := by decide +kernel
theorem dX1_times_15 : decode cX1_times 15 = .ok (.newarray .int, 2) := by decide +kernel
theorem dX1_times_17 : decode cX1_times 17 = .ok (.astore_n 2, 1) := by decide +kernel
theorem dX1_times_18 : decode cX1_times 18 = .ok (.iconst 0, 1) := by decide +kernel
theorem dX1_times_19 : decode cX1_times 19 = .ok (.istore_n 3, 1) := by decide +kernel
theorem dX1_times_20 : decode cX1_times 20 = .ok (.iload_n 3, 1) := by decide +kernel
theorem dX1_times_21 : decode cX1_times 21 = .ok (.aload_n 0, 1) := by decide +kernel
theorem dX1_times_22 : decode cX1_times 22 = .ok (.getfield 18, 3) := by decide +kernel
theorem dX1_times_25 : decode cX1_times 25 = .ok (.if_icmp .ge 43, 3) := by decide +kernel
theorem dX1_times_28 : decode cX1_times 28 = .ok (.iconst 0, 1) := by decide +kernel
theorem dX1_times_29 : decode cX1_times 29 = .ok (.istore 4, 2) := by decide +kernel
theorem dX1_times_31 : decode cX1_times 31 = .ok (.iload 4, 2) := by decide +kernel
theorem dX1_times_33 : decode cX1_times 33 = .ok (.aload_n 0, 1) := by decide +kernel
theorem dX1_times_34 : decode cX1_times 34 = .ok (.getfield 18, 3) := by decide +kernel
theorem dX1_times_37 : decode cX1_times 37 = .ok (.if_icmp .ge 25, 3) := by decide +kernel
theorem dX1_times_40 : decode cX1_times 40 = .ok (.aload_n 2, 1) := by decide +kernel
theorem dX1_times_41 : decode cX1_times 41 = .ok (.iload_n 3, 1) := by decide +kernel
theorem dX1_times_42 : decode cX1_times 42 = .ok (.aload_n 2, 1) := by decide +kernel
theorem dX1_times_43 : decode cX1_times 43 = .ok (.iload_n 3, 1) := by decide +kernel
theorem dX1_times_44 : decode cX1_times 44 = .ok (.iaload, 1) := by decide +kernel
theorem dX1_times_45 : decode cX1_times 45 = .ok (.aload_n 1, 1) := by decide +kernel
theorem dX1_times_46 : decode cX1_times 46 = .ok (.iload_n 3, 1) := by decide +kernel
theorem dX1_times_47 : decode cX1_times 47 = .ok (.aaload, 1) := by decide +kernel
theorem dX1_times_48 : decode cX1_times 48 = .ok (.iload 4, 2) := by decide +kernel
theorem dX1_times_50 : decode cX1_times 50 = .ok (.iaload, 1) := by decide +kernel
theorem dX1_times_51 : decode cX1_times 51 = .ok (.ineg, 1) := by decide +kernel
theorem dX1_times_52 : decode cX1_times 52 = .ok (.invokestatic 32, 3) := by decide +kernel
theorem dX1_times_55 : decode cX1_times 55 = .ok (.iastore, 1) := by decide +kernel
theorem dX1_times_56 : decode cX1_times 56 = .ok (.iinc 4 1, 3) := by decide +kernel
theorem dX1_times_59 : decode cX1_times 59 = .ok (.goto (-28), 3) := by decide +kernel
theorem dX1_times_62 : decode cX1_times 62 = .ok (.iinc 3 1, 3) := by decide +kernel
theorem dX1_times_65 : decode cX1_times 65 = .ok (.goto (-45), 3) := by decide +kernel
theorem dX1_times_68 : decode cX1_times 68 = .ok (.aload_n 2, 1) := by decide +kernel
theorem dX1_times_69 : decode cX1_times 69 = .ok (.areturn, 1) := by decide +kernel
theorem dX1_rounds_0 : decode cX1_rounds 0 = .ok (.aload_n 0, 1) := by decide +kernel
theorem dX1_rounds_1 : decode cX1_rounds 1 = .ok (.getfield 18, 3) := by decide +kernel
theorem dX1_rounds_4 : decode cX1_rounds 4 = .ok (.newarray .int, 2) := by decide +kernel
theorem dX1_rounds_6 : decode cX1_rounds 6 = .ok (.astore_n 1, 1) := by decide +kernel
theorem dX1_rounds_7 : decode cX1_rounds 7 = .ok (.iconst 0, 1) := by decide +kernel
theorem dX1_rounds_8 : decode cX1_rounds 8 = .ok (.istore_n 2, 1) := by decide +kernel
theorem dX1_rounds_9 : decode cX1_rounds 9 = .ok (.iload_n 2, 1) := by decide +kernel
theorem dX1_rounds_10 : decode cX1_rounds 10 = .ok (.aload_n 0, 1) := by decide +kernel
theorem dX1_rounds_11 : decode cX1_rounds 11 = .ok (.getfield 18, 3) := by decide +kernel
theorem dX1_rounds_14 : decode cX1_rounds 14 = .ok (.if_icmp .gt 102, 3) := by decide +kernel
theorem dX1_rounds_17 : decode cX1_rounds 17 = .ok (.iconst 0, 1) := by decide +kernel
theorem dX1_rounds_18 : decode cX1_rounds 18 = .ok (.istore_n 3, 1) := by decide +kernel
theorem dX1_rounds_19 : decode cX1_rounds 19 = .ok (.aload_n 0, 1) := by decide +kernel
theorem dX1_rounds_20 : decode cX1_rounds 20 = .ok (.getfield 11, 3) := by decide +kernel
theorem dX1_rounds_23 : decode cX1_rounds 23 = .ok (.astore 4, 2) := by decide +kernel
theorem dX1_rounds_25 : decode cX1_rounds 25 = .ok (.aload 4, 2) := by decide +kernel
theorem dX1_rounds_27 : decode cX1_rounds 27 = .ok (.arraylength, 1) := by decide +kernel
theorem dX1_rounds_28 : decode cX1_rounds 28 = .ok (.istore 5, 2) := by decide +kernel
theorem dX1_rounds_30 : decode cX1_rounds 30 = .ok (.iconst 0, 1) := by decide +kernel
theorem dX1_rounds_31 : decode cX1_rounds 31 = .ok (.istore 6, 2) := by decide +kernel
theorem dX1_rounds_33 : decode cX1_rounds 33 = .ok (.iload 6, 2) := by decide +kernel
theorem dX1_rounds_35 : decode cX1_rounds 35 = .ok (.iload 5, 2) := by decide +kernel
theorem dX1_rounds_37 : decode cX1_rounds 37 = .ok (.if_icmp .ge 65, 3) := by decide +kernel
theorem dX1_rounds_40 : decode cX1_rounds 40 = .ok (.aload 4, 2) := by decide +kernel
theorem dX1_rounds_42 : decode cX1_rounds 42 = .ok (.iload 6, 2) := by decide +kernel
theorem dX1_rounds_44 : decode cX1_rounds 44 = .ok (.aaload, 1) := by decide +kernel
theorem dX1_rounds_45 : decode cX1_rounds 45 = .ok (.astore 7, 2) := by decide +kernel
theorem dX1_rounds_47 : decode cX1_rounds 47 = .ok (.aload 7, 2) := by decide +kernel
theorem dX1_rounds_49 : decode cX1_rounds 49 = .ok (.iconst 3, 1) := by decide +kernel
theorem dX1_rounds_50 : decode cX1_rounds 50 = .ok (.iaload, 1) := by decide +kernel
theorem dX1_rounds_51 : decode cX1_rounds 51 = .ok (.ifCond .eq 45, 3) := by decide +kernel
theorem dX1_rounds_54 : decode cX1_rounds 54 = .ok (.aload_n 1, 1) := by decide +kernel
theorem dX1_rounds_55 : decode cX1_rounds 55 = .ok (.aload 7, 2) := by decide +kernel
theorem dX1_rounds_57 : decode cX1_rounds 57 = .ok (.iconst 1, 1) := by decide +kernel
theorem dX1_rounds_58 : decode cX1_rounds 58 = .ok (.iaload, 1) := by decide +kernel
theorem dX1_rounds_59 : decode cX1_rounds 59 = .ok (.iaload, 1) := by decide +kernel
theorem dX1_rounds_60 : decode cX1_rounds 60 = .ok (.aload_n 1, 1) := by decide +kernel
theorem dX1_rounds_61 : decode cX1_rounds 61 = .ok (.aload 7, 2) := by decide +kernel
theorem dX1_rounds_63 : decode cX1_rounds 63 = .ok (.iconst 0, 1) := by decide +kernel
theorem dX1_rounds_64 : decode cX1_rounds 64 = .ok (.iaload, 1) := by decide +kernel
theorem dX1_rounds_65 : decode cX1_rounds 65 = .ok (.iaload, 1) := by decide +kernel
theorem dX1_rounds_66 : decode cX1_rounds 66 = .ok (.aload 7, 2) := by decide +kernel
theorem dX1_rounds_68 : decode cX1_rounds 68 = .ok (.iconst 2, 1) := by decide +kernel
theorem dX1_rounds_69 : decode cX1_rounds 69 = .ok (.iaload, 1) := by decide +kernel
theorem dX1_rounds_70 : decode cX1_rounds 70 = .ok (.iadd, 1) := by decide +kernel
theorem dX1_rounds_71 : decode cX1_rounds 71 = .ok (.if_icmp .gt 6, 3) := by decide +kernel
theorem dX1_rounds_74 : decode cX1_rounds 74 = .ok (.goto 22, 3) := by decide +kernel
theorem dX1_rounds_77 : decode cX1_rounds 77 = .ok (.aload_n 1, 1) := by decide +kernel
theorem dX1_rounds_78 : decode cX1_rounds 78 = .ok (.aload 7, 2) := by decide +kernel
theorem dX1_rounds_80 : decode cX1_rounds 80 = .ok (.iconst 0, 1) := by decide +kernel
theorem dX1_rounds_81 : decode cX1_rounds 81 = .ok (.iaload, 1) := by decide +kernel
theorem dX1_rounds_82 : decode cX1_rounds 82 = .ok (.aload_n 1, 1) := by decide +kernel
theorem dX1_rounds_83 : decode cX1_rounds 83 = .ok (.aload 7, 2) := by decide +kernel
theorem dX1_rounds_85 : decode cX1_rounds 85 = .ok (.iconst 1, 1) := by decide +kernel
theorem dX1_rounds_86 : decode cX1_rounds 86 = .ok (.iaload, 1) := by decide +kernel
theorem dX1_rounds_87 : decode cX1_rounds 87 = .ok (.iaload, 1) := by decide +kernel
theorem dX1_rounds_88 : decode cX1_rounds 88 = .ok (.aload 7, 2) := by decide +kernel
theorem dX1_rounds_90 : decode cX1_rounds 90 = .ok (.iconst 2, 1) := by decide +kernel
theorem dX1_rounds_91 : decode cX1_rounds 91 = .ok (.iaload, 1) := by decide +kernel
theorem dX1_rounds_92 : decode cX1_rounds 92 = .ok (.isub, 1) := by decide +kernel
theorem dX1_rounds_93 : decode cX1_rounds 93 = .ok (.iastore, 1) := by decide +kernel
theorem dX1_rounds_94 : decode cX1_rounds 94 = .ok (.iconst 1, 1) := by decide +kernel
theorem dX1_rounds_95 : decode cX1_rounds 95 = .ok (.istore_n 3, 1) := by decide +kernel
theorem dX1_rounds_96 : decode cX1_rounds 96 = .ok (.iinc 6 1, 3) := by decide +kernel
theorem dX1_rounds_99 : decode cX1_rounds 99 = .ok (.goto (-66), 3) := by decide +kernel
theorem dX1_rounds_102 : decode cX1_rounds 102 = .ok (.iload_n 3, 1) := by decide +kernel
theorem dX1_rounds_103 : decode cX1_rounds 103 = .ok (.ifCond .ne 7, 3) := by decide +kernel
theorem dX1_rounds_106 : decode cX1_rounds 106 = .ok (.iload_n 2, 1) := by decide +kernel
theorem dX1_rounds_107 : decode cX1_rounds 107 = .ok (.iconst 1, 1) := by decide +kernel
theorem dX1_rounds_108 : decode cX1_rounds 108 = .ok (.iadd, 1) := by decide +kernel
theorem dX1_rounds_109 : decode cX1_rounds 109 = .ok (.ireturn, 1) := by decide +kernel
theorem dX1_rounds_110 : decode cX1_rounds 110 = .ok (.iinc 2 1, 3) := by decide +kernel
theorem dX1_rounds_113 : decode cX1_rounds 113 = .ok (.goto (-104), 3) := by decide +kernel
theorem dX1_rounds_116 : decode cX1_rounds 116 = .ok (.iconst (-1), 1) := by decide +kernel
theorem dX1_rounds_117 : decode cX1_rounds 117 = .ok (.ireturn, 1) := by decide +kernel
theorem dX1_last_0 : decode cX1_last 0 = .ok (.iconst 0, 1) := by decide +kernel
theorem dX1_last_1 : decode cX1_last 1 = .ok (.istore_n 1, 1) := by decide +kernel
theorem dX1_last_2 : decode cX1_last 2 = .ok (.aload_n 0, 1) := by decide +kernel
theorem dX1_last_3 : decode cX1_last 3 = .ok (.astore_n 2, 1) := by decide +kernel
theorem dX1_last_4 : decode cX1_last 4 = .ok (.aload_n 2, 1) := by decide +kernel
theorem dX1_last_5 : decode cX1_last 5 = .ok (.arraylength, 1) := by decide +kernel
theorem dX1_last_6 : decode cX1_last 6 = .ok (.istore_n 3, 1) := by decide +kernel
theorem dX1_last_7 : decode cX1_last 7 = .ok (.iconst 0, 1) := by decide +kernel
theorem dX1_last_8 : decode cX1_last 8 = .ok (.istore 4, 2) := by decide +kernel
theorem dX1_last_10 : decode cX1_last 10 = .ok (.iload 4, 2) := by decide +kernel
theorem dX1_last_12 : decode cX1_last 12 = .ok (.iload_n 3, 1) := by decide +kernel
theorem dX1_last_13 : decode cX1_last 13 = .ok (.if_icmp .ge 22, 3) := by decide +kernel
theorem dX1_last_16 : decode cX1_last 16 = .ok (.aload_n 2, 1) := by decide +kernel
theorem dX1_last_17 : decode cX1_last 17 = .ok (.iload 4, 2) := by decide +kernel
theorem dX1_last_19 : decode cX1_last 19 = .ok (.iaload, 1) := by decide +kernel
theorem dX1_last_20 : decode cX1_last 20 = .ok (.istore 5, 2) := by decide +kernel
theorem dX1_last_22 : decode cX1_last 22 = .ok (.iload_n 1, 1) := by decide +kernel
theorem dX1_last_23 : decode cX1_last 23 = .ok (.iload 5, 2) := by decide +kernel
theorem dX1_last_25 : decode cX1_last 25 = .ok (.invokestatic 32, 3) := by decide +kernel
theorem dX1_last_28 : decode cX1_last 28 = .ok (.istore_n 1, 1) := by decide +kernel
theorem dX1_last_29 : decode cX1_last 29 = .ok (.iinc 4 1, 3) := by decide +kernel
theorem dX1_last_32 : decode cX1_last 32 = .ok (.goto (-22), 3) := by decide +kernel
theorem dX1_last_35 : decode cX1_last 35 = .ok (.iload_n 1, 1) := by decide +kernel
theorem dX1_last_36 : decode cX1_last 36 = .ok (.ireturn, 1) := by decide +kernel
theorem dX1_ring_0 : decode cX1_ring 0 = .ok (.aload_n 0, 1) := by decide +kernel
theorem dX1_ring_1 : decode cX1_ring 1 = .ok (.getfield 18, 3) := by decide +kernel
theorem dX1_ring_4 : decode cX1_ring 4 = .ok (.aload_n 0, 1) := by decide +kernel
theorem dX1_ring_5 : decode cX1_ring 5 = .ok (.getfield 18, 3) := by decide +kernel
theorem dX1_ring_8 : decode cX1_ring 8 = .ok (.multianewarray 26 2, 4) := by decide +kernel
theorem dX1_ring_12 : decode cX1_ring 12 = .ok (.astore_n 1, 1) := by decide +kernel
theorem dX1_ring_13 : decode cX1_ring 13 = .ok (.iconst 0, 1) := by decide +kernel
theorem dX1_ring_14 : decode cX1_ring 14 = .ok (.istore_n 2, 1) := by decide +kernel
theorem dX1_ring_15 : decode cX1_ring 15 = .ok (.iload_n 2, 1) := by decide +kernel
theorem dX1_ring_16 : decode cX1_ring 16 = .ok (.aload_n 0, 1) := by decide +kernel
theorem dX1_ring_17 : decode cX1_ring 17 = .ok (.getfield 18, 3) := by decide +kernel
theorem dX1_ring_20 : decode cX1_ring 20 = .ok (.if_icmp .ge 41, 3) := by decide +kernel
theorem dX1_ring_23 : decode cX1_ring 23 = .ok (.iconst 0, 1) := by decide +kernel
theorem dX1_ring_24 : decode cX1_ring 24 = .ok (.istore_n 3, 1) := by decide +kernel
theorem dX1_ring_25 : decode cX1_ring 25 = .ok (.iload_n 3, 1) := by decide +kernel
theorem dX1_ring_26 : decode cX1_ring 26 = .ok (.aload_n 0, 1) := by decide +kernel
theorem dX1_ring_27 : decode cX1_ring 27 = .ok (.getfield 18, 3) := by decide +kernel
theorem dX1_ring_30 : decode cX1_ring 30 = .ok (.if_icmp .ge 25, 3) := by decide +kernel
theorem dX1_ring_33 : decode cX1_ring 33 = .ok (.aload_n 1, 1) := by decide +kernel
theorem dX1_ring_34 : decode cX1_ring 34 = .ok (.iload_n 2, 1) := by decide +kernel
theorem dX1_ring_35 : decode cX1_ring 35 = .ok (.aaload, 1) := by decide +kernel
theorem dX1_ring_36 : decode cX1_ring 36 = .ok (.iload_n 3, 1) := by decide +kernel
theorem dX1_ring_37 : decode cX1_ring 37 = .ok (.iload_n 2, 1) := by decide +kernel
theorem dX1_ring_38 : decode cX1_ring 38 = .ok (.iload_n 3, 1) := by decide +kernel
theorem dX1_ring_39 : decode cX1_ring 39 = .ok (.if_icmp .ne 7, 3) := by decide +kernel
theorem dX1_ring_42 : decode cX1_ring 42 = .ok (.iconst 0, 1) := by decide +kernel
theorem dX1_ring_43 : decode cX1_ring 43 = .ok (.goto 5, 3) := by decide +kernel
theorem dX1_ring_46 : decode cX1_ring 46 = .ok (.ldc 27, 2) := by decide +kernel
theorem dX1_ring_48 : decode cX1_ring 48 = .ok (.iastore, 1) := by decide +kernel
theorem dX1_ring_49 : decode cX1_ring 49 = .ok (.iinc 3 1, 3) := by decide +kernel
theorem dX1_ring_52 : decode cX1_ring 52 = .ok (.goto (-27), 3) := by decide +kernel
theorem dX1_ring_55 : decode cX1_ring 55 = .ok (.iinc 2 1, 3) := by decide +kernel
theorem dX1_ring_58 : decode cX1_ring 58 = .ok (.goto (-43), 3) := by decide +kernel
theorem dX1_ring_61 : decode cX1_ring 61 = .ok (.iconst 1, 1) := by decide +kernel
theorem dX1_ring_62 : decode cX1_ring 62 = .ok (.istore_n 2, 1) := by decide +kernel
theorem dX1_ring_63 : decode cX1_ring 63 = .ok (.iload_n 2, 1) := by decide +kernel
theorem dX1_ring_64 : decode cX1_ring 64 = .ok (.aload_n 0, 1) := by decide +kernel
theorem dX1_ring_65 : decode cX1_ring 65 = .ok (.getfield 18, 3) := by decide +kernel
theorem dX1_ring_68 : decode cX1_ring 68 = .ok (.if_icmp .gt 219, 3) := by decide +kernel
theorem dX1_ring_71 : decode cX1_ring 71 = .ok (.aload_n 0, 1) := by decide +kernel
theorem dX1_ring_72 : decode cX1_ring 72 = .ok (.getfield 18, 3) := by decide +kernel
theorem dX1_ring_75 : decode cX1_ring 75 = .ok (.aload_n 0, 1) := by decide +kernel
theorem dX1_ring_76 : decode cX1_ring 76 = .ok (.getfield 18, 3) := by decide +kernel
theorem dX1_ring_79 : decode cX1_ring 79 = .ok (.multianewarray 26 2, 4) := by decide +kernel
theorem dX1_ring_83 : decode cX1_ring 83 = .ok (.astore_n 3, 1) := by decide +kernel
theorem dX1_ring_84 : decode cX1_ring 84 = .ok (.aload_n 3, 1) := by decide +kernel
theorem dX1_ring_85 : decode cX1_ring 85 = .ok (.astore 4, 2) := by decide +kernel
theorem dX1_ring_87 : decode cX1_ring 87 = .ok (.aload 4, 2) := by decide +kernel
theorem dX1_ring_89 : decode cX1_ring 89 = .ok (.arraylength, 1) := by decide +kernel
theorem dX1_ring_90 : decode cX1_ring 90 = .ok (.istore 5, 2) := by decide +kernel
theorem dX1_ring_92 : decode cX1_ring 92 = .ok (.iconst 0, 1) := by decide +kernel
theorem dX1_ring_93 : decode cX1_ring 93 = .ok (.istore 6, 2) := by decide +kernel
theorem dX1_ring_95 : decode cX1_ring 95 = .ok (.iload 6, 2) := by decide +kernel
theorem dX1_ring_97 : decode cX1_ring 97 = .ok (.iload 5, 2) := by decide +kernel
theorem dX1_ring_99 : decode cX1_ring 99 = .ok (.if_icmp .ge 41, 3) := by decide +kernel
theorem dX1_ring_102 : decode cX1_ring 102 = .ok (.aload 4, 2) := by decide +kernel
theorem dX1_ring_104 : decode cX1_ring 104 = .ok (.iload 6, 2) := by decide +kernel
theorem dX1_ring_106 : decode cX1_ring 106 = .ok (.aaload, 1) := by decide +kernel
theorem dX1_ring_107 : decode cX1_ring 107 = .ok (.astore 7, 2) := by decide +kernel
theorem dX1_ring_109 : decode cX1_ring 109 = .ok (.iconst 0, 1) := by decide +kernel
theorem dX1_ring_110 : decode cX1_ring 110 = .ok (.istore 8, 2) := by decide +kernel
theorem dX1_ring_112 : decode cX1_ring 112 = .ok (.iload 8, 2) := by decide +kernel
theorem dX1_ring_114 : decode cX1_ring 114 = .ok (.aload_n 0, 1) := by decide +kernel
theorem dX1_ring_115 : decode cX1_ring 115 = .ok (.getfield 18, 3) := by decide +kernel
theorem dX1_ring_118 : decode cX1_ring 118 = .ok (.if_icmp .ge 16, 3) := by decide +kernel
theorem dX1_ring_121 : decode cX1_ring 121 = .ok (.aload 7, 2) := by decide +kernel
theorem dX1_ring_123 : decode cX1_ring 123 = .ok (.iload 8, 2) := by decide +kernel
theorem dX1_ring_125 : decode cX1_ring 125 = .ok (.ldc 27, 2) := by decide +kernel
theorem dX1_ring_127 : decode cX1_ring 127 = .ok (.iastore, 1) := by decide +kernel
theorem dX1_ring_128 : decode cX1_ring 128 = .ok (.iinc 8 1, 3) := by decide +kernel
theorem dX1_ring_131 : decode cX1_ring 131 = .ok (.goto (-19), 3) := by decide +kernel
theorem dX1_ring_134 : decode cX1_ring 134 = .ok (.iinc 6 1, 3) := by decide +kernel
theorem dX1_ring_137 : decode cX1_ring 137 = .ok (.goto (-42), 3) := by decide +kernel
theorem dX1_ring_140 : decode cX1_ring 140 = .ok (.iconst 0, 1) := by decide +kernel
theorem dX1_ring_141 : decode cX1_ring 141 = .ok (.istore 4, 2) := by decide +kernel
theorem dX1_ring_143 : decode cX1_ring 143 = .ok (.iload 4, 2) := by decide +kernel
theorem dX1_ring_145 : decode cX1_ring 145 = .ok (.aload_n 0, 1) := by decide +kernel
theorem dX1_ring_146 : decode cX1_ring 146 = .ok (.getfield 18, 3) := by decide +kernel
theorem dX1_ring_149 : decode cX1_ring 149 = .ok (.if_icmp .ge 100, 3) := by decide +kernel
theorem dX1_ring_152 : decode cX1_ring 152 = .ok (.aload_n 0, 1) := by decide +kernel
theorem dX1_ring_153 : decode cX1_ring 153 = .ok (.getfield 11, 3) := by decide +kernel
theorem dX1_ring_156 : decode cX1_ring 156 = .ok (.astore 5, 2) := by decide +kernel
theorem dX1_ring_158 : decode cX1_ring 158 = .ok (.aload 5, 2) := by decide +kernel
theorem dX1_ring_160 : decode cX1_ring 160 = .ok (.arraylength, 1) := by decide +kernel
theorem dX1_ring_161 : decode cX1_ring 161 = .ok (.istore 6, 2) := by decide +kernel
theorem dX1_ring_163 : decode cX1_ring 163 = .ok (.iconst 0, 1) := by decide +kernel
theorem dX1_ring_164 : decode cX1_ring 164 = .ok (.istore 7, 2) := by decide +kernel
theorem dX1_ring_166 : decode cX1_ring 166 = .ok (.iload 7, 2) := by decide +kernel
theorem dX1_ring_168 : decode cX1_ring 168 = .ok (.iload 6, 2) := by decide +kernel
theorem dX1_ring_170 : decode cX1_ring 170 = .ok (.if_icmp .ge 73, 3) := by decide +kernel
theorem dX1_ring_173 : decode cX1_ring 173 = .ok (.aload 5, 2) := by decide +kernel
theorem dX1_ring_175 : decode cX1_ring 175 = .ok (.iload 7, 2) := by decide +kernel
theorem dX1_ring_177 : decode cX1_ring 177 = .ok (.aaload, 1) := by decide +kernel
theorem dX1_ring_178 : decode cX1_ring 178 = .ok (.astore 8, 2) := by decide +kernel
theorem dX1_ring_180 : decode cX1_ring 180 = .ok (.aload 8, 2) := by decide +kernel
theorem dX1_ring_182 : decode cX1_ring 182 = .ok (.iconst 3, 1) := by decide +kernel
theorem dX1_ring_183 : decode cX1_ring 183 = .ok (.iaload, 1) := by decide +kernel
theorem dX1_ring_184 : decode cX1_ring 184 = .ok (.iconst 1, 1) := by decide +kernel
theorem dX1_ring_185 : decode cX1_ring 185 = .ok (.if_icmp .ne 52, 3) := by decide +kernel
theorem dX1_ring_188 : decode cX1_ring 188 = .ok (.aload_n 1, 1) := by decide +kernel
theorem dX1_ring_189 : decode cX1_ring 189 = .ok (.iload 4, 2) := by decide +kernel
theorem dX1_ring_191 : decode cX1_ring 191 = .ok (.aaload, 1) := by decide +kernel
theorem dX1_ring_192 : decode cX1_ring 192 = .ok (.aload 8, 2) := by decide +kernel
theorem dX1_ring_194 : decode cX1_ring 194 = .ok (.iconst 0, 1) := by decide +kernel
theorem dX1_ring_195 : decode cX1_ring 195 = .ok (.iaload, 1) := by decide +kernel
theorem dX1_ring_196 : decode cX1_ring 196 = .ok (.iaload, 1) := by decide +kernel
theorem dX1_ring_197 : decode cX1_ring 197 = .ok (.ldc 27, 2) := by decide +kernel
theorem dX1_ring_199 : decode cX1_ring 199 = .ok (.if_icmp .eq 38, 3) := by decide +kernel
theorem dX1_ring_202 : decode cX1_ring 202 = .ok (.aload_n 3, 1) := by decide +kernel
theorem dX1_ring_203 : decode cX1_ring 203 = .ok (.iload 4, 2) := by decide +kernel
theorem dX1_ring_205 : decode cX1_ring 205 = .ok (.aaload, 1) := by decide +kernel
theorem dX1_ring_206 : decode cX1_ring 206 = .ok (.aload 8, 2) := by decide +kernel
theorem dX1_ring_208 : decode cX1_ring 208 = .ok (.iconst 1, 1) := by decide +kernel
theorem dX1_ring_209 : decode cX1_ring 209 = .ok (.iaload, 1) := by decide +kernel
theorem dX1_ring_210 : decode cX1_ring 210 = .ok (.aload_n 3, 1) := by decide +kernel
theorem dX1_ring_211 : decode cX1_ring 211 = .ok (.iload 4, 2) := by decide +kernel
theorem dX1_ring_213 : decode cX1_ring 213 = .ok (.aaload, 1) := by decide +kernel
theorem dX1_ring_214 : decode cX1_ring 214 = .ok (.aload 8, 2) := by decide +kernel
theorem dX1_ring_216 : decode cX1_ring 216 = .ok (.iconst 1, 1) := by decide +kernel
theorem dX1_ring_217 : decode cX1_ring 217 = .ok (.iaload, 1) := by decide +kernel
theorem dX1_ring_218 : decode cX1_ring 218 = .ok (.iaload, 1) := by decide +kernel
theorem dX1_ring_219 : decode cX1_ring 219 = .ok (.aload_n 1, 1) := by decide +kernel
theorem dX1_ring_220 : decode cX1_ring 220 = .ok (.iload 4, 2) := by decide +kernel
theorem dX1_ring_222 : decode cX1_ring 222 = .ok (.aaload, 1) := by decide +kernel
theorem dX1_ring_223 : decode cX1_ring 223 = .ok (.aload 8, 2) := by decide +kernel
theorem dX1_ring_225 : decode cX1_ring 225 = .ok (.iconst 0, 1) := by decide +kernel
theorem dX1_ring_226 : decode cX1_ring 226 = .ok (.iaload, 1) := by decide +kernel
theorem dX1_ring_227 : decode cX1_ring 227 = .ok (.iaload, 1) := by decide +kernel
theorem dX1_ring_228 : decode cX1_ring 228 = .ok (.aload 8, 2) := by decide +kernel
theorem dX1_ring_230 : decode cX1_ring 230 = .ok (.iconst 2, 1) := by decide +kernel
theorem dX1_ring_231 : decode cX1_ring 231 = .ok (.iaload, 1) := by decide +kernel
theorem dX1_ring_232 : decode cX1_ring 232 = .ok (.iadd, 1) := by decide +kernel
theorem dX1_ring_233 : decode cX1_ring 233 = .ok (.invokestatic 38, 3) := by decide +kernel
theorem dX1_ring_236 : decode cX1_ring 236 = .ok (.iastore, 1) := by decide +kernel
theorem dX1_ring_237 : decode cX1_ring 237 = .ok (.iinc 7 1, 3) := by decide +kernel
theorem dX1_ring_240 : decode cX1_ring 240 = .ok (.goto (-74), 3) := by decide +kernel
theorem dX1_ring_243 : decode cX1_ring 243 = .ok (.iinc 4 1, 3) := by decide +kernel
theorem dX1_ring_246 : decode cX1_ring 246 = .ok (.goto (-103), 3) := by decide +kernel
theorem dX1_ring_249 : decode cX1_ring 249 = .ok (.aload_n 3, 1) := by decide +kernel
theorem dX1_ring_250 : decode cX1_ring 250 = .ok (.astore_n 1, 1) := by decide +kernel
theorem dX1_ring_251 : decode cX1_ring 251 = .ok (.iconst 0, 1) := by decide +kernel
theorem dX1_ring_252 : decode cX1_ring 252 = .ok (.istore 4, 2) := by decide +kernel
theorem dX1_ring_254 : decode cX1_ring 254 = .ok (.iload 4, 2) := by decide +kernel
theorem dX1_ring_256 : decode cX1_ring 256 = .ok (.aload_n 0, 1) := by decide +kernel
theorem dX1_ring_257 : decode cX1_ring 257 = .ok (.getfield 18, 3) := by decide +kernel
theorem dX1_ring_260 : decode cX1_ring 260 = .ok (.if_icmp .ge 21, 3) := by decide +kernel
theorem dX1_ring_263 : decode cX1_ring 263 = .ok (.aload_n 1, 1) := by decide +kernel
theorem dX1_ring_264 : decode cX1_ring 264 = .ok (.iload 4, 2) := by decide +kernel
theorem dX1_ring_266 : decode cX1_ring 266 = .ok (.aaload, 1) := by decide +kernel
theorem dX1_ring_267 : decode cX1_ring 267 = .ok (.iload 4, 2) := by decide +kernel
theorem dX1_ring_269 : decode cX1_ring 269 = .ok (.iaload, 1) := by decide +kernel
theorem dX1_ring_270 : decode cX1_ring 270 = .ok (.ifCond .ge 5, 3) := by decide +kernel
theorem dX1_ring_273 : decode cX1_ring 273 = .ok (.iload_n 2, 1) := by decide +kernel
theorem dX1_ring_274 : decode cX1_ring 274 = .ok (.ireturn, 1) := by decide +kernel
theorem dX1_ring_275 : decode cX1_ring 275 = .ok (.iinc 4 1, 3) := by decide +kernel
theorem dX1_ring_278 : decode cX1_ring 278 = .ok (.goto (-24), 3) := by decide +kernel
theorem dX1_ring_281 : decode cX1_ring 281 = .ok (.iinc 2 1, 3) := by decide +kernel
theorem dX1_ring_284 : decode cX1_ring 284 = .ok (.goto (-221), 3) := by decide +kernel
theorem dX1_ring_287 : decode cX1_ring 287 = .ok (.iconst 0, 1) := by decide +kernel
theorem dX1_ring_288 : decode cX1_ring 288 = .ok (.ireturn, 1) := by decide +kernel
set_option maxRecDepth 20000 in
theorem ggX1_room_X1_copy : GoodIn wsX1_room wsX1_copy := goodIn_r _ [7, 8, 9, 6, 10, 1, 11, 12, 13, 14, 15, 16, 17, 18, 19, 20, 21, 22, 29, 30] (by decide +kernel) (by decide +kernel)
set_option maxRecDepth 20000 in
theorem gX1_room_X1_copy : GoodIn wsX1_room (wsV RX1 41 RX1 yX1_copy wsX1_copy) := goodIn_app (goodIn_of _ (by decide +kernel)) ggX1_room_X1_copy
set_option maxRecDepth 20000 in
theorem ggX1_room_X1_ways : GoodIn wsX1_room wsX1_ways := goodIn_r _ [26, 10, 27, 28, 2, 1, 29, 30] (by decide +kernel) (by decide +kernel)
set_option maxRecDepth 20000 in
theorem gX1_room_X1_ways : GoodIn wsX1_room (wsV RX1 28 RX1 yX1_ways wsX1_ways) := goodIn_app (goodIn_of _ (by decide +kernel)) ggX1_room_X1_ways
theorem dX1_room_0 : decode cX1_room 0 = .ok (.aload_n 0, 1) := by decide +kernel
theorem dX1_room_1 : decode cX1_room 1 = .ok (.invokevirtual 41, 3) := by decide +kernel
theorem dX1_room_4 : decode cX1_room 4 = .ok (.astore_n 2, 1) := by decide +kernel
theorem dX1_room_5 : decode cX1_room 5 = .ok (.aload_n 2, 1) := by decide +kernel
theorem dX1_room_6 : decode cX1_room 6 = .ok (.getfield 11, 3) := by decide +kernel
theorem dX1_room_9 : decode cX1_room 9 = .ok (.iload_n 1, 1) := by decide +kernel
theorem dX1_room_10 : decode cX1_room 10 = .ok (.aaload, 1) := by decide +kernel
theorem dX1_room_11 : decode cX1_room 11 = .ok (.iconst 3, 1) := by decide +kernel
theorem dX1_room_12 : decode cX1_room 12 = .ok (.iconst 0, 1) := by decide +kernel
theorem dX1_room_13 : decode cX1_room 13 = .ok (.iastore, 1) := by decide +kernel
theorem dX1_room_14 : decode cX1_room 14 = .ok (.aload_n 2, 1) := by decide +kernel
theorem dX1_room_15 : decode cX1_room 15 = .ok (.invokevirtual 28, 3) := by decide +kernel
theorem dX1_room_18 : decode cX1_room 18 = .ok (.aload_n 0, 1) := by decide +kernel
theorem dX1_room_19 : decode cX1_room 19 = .ok (.getfield 11, 3) := by decide +kernel
theorem dX1_room_22 : decode cX1_room 22 = .ok (.iload_n 1, 1) := by decide +kernel
theorem dX1_room_23 : decode cX1_room 23 = .ok (.aaload, 1) := by decide +kernel
theorem dX1_room_24 : decode cX1_room 24 = .ok (.iconst 1, 1) := by decide +kernel
theorem dX1_room_25 : decode cX1_room 25 = .ok (.iaload, 1) := by decide +kernel
theorem dX1_room_26 : decode cX1_room 26 = .ok (.aaload, 1) := by decide +kernel
theorem dX1_room_27 : decode cX1_room 27 = .ok (.aload_n 0, 1) := by decide +kernel
theorem dX1_room_28 : decode cX1_room 28 = .ok (.getfield 11, 3) := by decide +kernel
theorem dX1_room_31 : decode cX1_room 31 = .ok (.iload_n 1, 1) := by decide +kernel
theorem dX1_room_32 : decode cX1_room 32 = .ok (.aaload, 1) := by decide +kernel
theorem dX1_room_33 : decode cX1_room 33 = .ok (.iconst 0, 1) := by decide +kernel
theorem dX1_room_34 : decode cX1_room 34 = .ok (.iaload, 1) := by decide +kernel
theorem dX1_room_35 : decode cX1_room 35 = .ok (.iaload, 1) := by decide +kernel
theorem dX1_room_36 : decode cX1_room 36 = .ok (.istore_n 3, 1) := by decide +kernel
theorem dX1_room_37 : decode cX1_room 37 = .ok (.iload_n 3, 1) := by decide +kernel
theorem dX1_room_38 : decode cX1_room 38 = .ok (.ldc 27, 2) := by decide +kernel
theorem dX1_room_40 : decode cX1_room 40 = .ok (.if_icmp .eq 9, 3) := by decide +kernel
theorem dX1_room_43 : decode cX1_room 43 = .ok (.iload_n 3, 1) := by decide +kernel
theorem dX1_room_44 : decode cX1_room 44 = .ok (.bipush 99, 2) := by decide +kernel
theorem dX1_room_46 : decode cX1_room 46 = .ok (.if_icmp .le 8, 3) := by decide +kernel
theorem dX1_room_49 : decode cX1_room 49 = .ok (.bipush (-99), 2) := by decide +kernel
theorem dX1_room_51 : decode cX1_room 51 = .ok (.goto 5, 3) := by decide +kernel
theorem dX1_room_54 : decode cX1_room 54 = .ok (.iload_n 3, 1) := by decide +kernel
theorem dX1_room_55 : decode cX1_room 55 = .ok (.ineg, 1) := by decide +kernel
theorem dX1_room_56 : decode cX1_room 56 = .ok (.ireturn, 1) := by decide +kernel
set_option maxRecDepth 20000 in
theorem ggX1_isSame_X1_times : GoodIn wsX1_isSame wsX1_times := goodIn_r _ [8, 2, 3, 9, 10, 11, 12, 13, 14, 15, 7, 16, 17, 18, 1, 116, 117] (by decide +kernel) (by decide +kernel)
set_option maxRecDepth 20000 in
theorem gX1_isSame_X1_times : GoodIn wsX1_isSame (wsV RX1 45 RX1 yX1_times wsX1_times) := goodIn_app (goodIn_of _ (by decide +kernel)) ggX1_isSame_X1_times
set_option maxRecDepth 20000 in
theorem ggX1_isSame_X0_told : GoodIn wsX1_isSame wsX0_told := goodIn_ca (goodIn_r _ [23, 24, 25, 26, 27, 28, 29, 30, 22, 31, 32, 33, 34, 35, 36, 37, 38, 39, 40, 41, 42, 43, 44, 45, 46, 47, 118, 119, 120, 121, 122, 123, 124, 125, 126, 127, 128, 129] (by decide +kernel) (by decide +kernel)) (goodIn_sub (fun _ h => List.mem_cons_of_mem _ (List.mem_append_right _ h)) (by decide +kernel))
set_option maxRecDepth 20000 in
theorem gX1_isSame_X0_told : GoodIn wsX1_isSame (wsV RX1 49 RX0 yX0_told wsX0_told) := goodIn_app (goodIn_of _ (by decide +kernel)) ggX1_isSame_X0_told
set_option maxRecDepth 20000 in
theorem ggX1_isSame_X0_about : GoodIn wsX1_isSame wsX0_about := goodIn_ca (goodIn_r _ [51, 24, 25, 42, 52, 53, 54, 22, 55, 32, 33, 56, 35, 36, 37, 57, 58, 59, 60, 34, 27, 43, 44, 45, 46, 47, 118, 119, 120, 121, 122, 123, 124, 125, 126, 127, 128, 129] (by decide +kernel) (by decide +kernel)) (goodIn_sub (fun _ h => List.mem_cons_of_mem _ (List.mem_append_right _ h)) (by decide +kernel))
set_option maxRecDepth 20000 in
theorem gX1_isSame_X0_about : GoodIn wsX1_isSame (wsV RX1 54 RX0 yX0_about wsX0_about) := goodIn_app (goodIn_of _ (by decide +kernel)) ggX1_isSame_X0_about
set_option maxRecDepth 20000 in
theorem ggX1_isSame_X1_rounds : GoodIn wsX1_isSame wsX1_rounds := goodIn_r _ [64, 2, 3, 1, 116, 117] (by decide +kernel) (by decide +kernel)
set_option maxRecDepth 20000 in
theorem gX1_isSame_X1_rounds : GoodIn wsX1_isSame (wsV RX1 57 RX1 yX1_rounds wsX1_rounds) := goodIn_app (goodIn_of _ (by decide +kernel)) ggX1_isSame_X1_rounds
set_option maxRecDepth 20000 in
theorem ggX1_isSame_X1_last : GoodIn wsX1_isSame wsX1_last := goodIn_r _ [67, 9, 10, 11, 12] (by decide +kernel) (by decide +kernel)
set_option maxRecDepth 20000 in
theorem gX1_isSame_X1_last : GoodIn wsX1_isSame (va_wsS RX1 61 yX1_last wsX1_last) := goodIn_app (goodIn_of _ (by decide +kernel)) ggX1_isSame_X1_last
set_option maxRecDepth 20000 in
theorem ggX1_isSame_X1_ring : GoodIn wsX1_isSame wsX1_ring := goodIn_r _ [71, 2, 17, 3, 18, 1, 72, 73, 11, 74, 116, 117] (by decide +kernel) (by decide +kernel)
set_option maxRecDepth 20000 in
theorem gX1_isSame_X1_ring : GoodIn wsX1_isSame (wsV RX1 65 RX1 yX1_ring wsX1_ring) := goodIn_app (goodIn_of _ (by decide +kernel)) ggX1_isSame_X1_ring
set_option maxRecDepth 20000 in
theorem ggX1_isSame_X0_count : GoodIn wsX1_isSame wsX0_count := goodIn_ca (goodIn_r _ [78, 56, 34, 47, 42, 35, 36, 22, 37, 32, 33, 79, 80, 81, 82, 27, 43, 44, 45, 46, 83, 84, 85, 86, 87, 10, 11, 12, 88, 89, 90, 91, 38, 39, 40, 41, 25, 24, 26, 92, 93, 94, 95, 96, 97, 98, 99, 100, 101, 102, 103, 104, 105, 106, 107, 73, 74, 118, 119, 120, 121, 122, 123, 124, 125, 126, 127, 128, 129] (by decide +kernel) (by decide +kernel)) (goodIn_sub (fun _ h => List.mem_cons_of_mem _ (List.mem_append_right _ h)) (by decide +kernel))
set_option maxRecDepth 20000 in
theorem gX1_isSame_X0_count : GoodIn wsX1_isSame (wsV RX1 68 RX0 yX0_count wsX0_count) := goodIn_app (goodIn_of _ (by decide +kernel)) ggX1_isSame_X0_count
set_option maxRecDepth 20000 in
theorem ggX1_isSame_X0_holds : GoodIn wsX1_isSame wsX0_holds := goodIn_r _ [111, 43, 44, 45, 22, 46, 47, 118, 119, 120, 121, 122, 123, 124, 125, 126, 127, 128, 129] (by decide +kernel) (by decide +kernel)
set_option maxRecDepth 20000 in
theorem gX1_isSame_X0_holds : GoodIn wsX1_isSame (wsV RX1 72 RX0 yX0_holds wsX0_holds) := goodIn_app (goodIn_of _ (by decide +kernel)) ggX1_isSame_X0_holds
set_option maxRecDepth 20000 in
theorem ggX1_isSame_X0_mean : GoodIn wsX1_isSame wsX0_mean := goodIn_r _ [115, 56, 42, 43, 44, 45, 22, 46, 47, 118, 119, 120, 121, 122, 123, 124, 125, 126, 127, 128, 129] (by decide +kernel) (by decide +kernel)
set_option maxRecDepth 20000 in
theorem gX1_isSame_X0_mean : GoodIn wsX1_isSame (wsV RX1 76 RX0 yX0_mean wsX0_mean) := goodIn_app (goodIn_of _ (by decide +kernel)) ggX1_isSame_X0_mean
theorem dX1_isSame_0 : decode cX1_isSame 0 = .ok (.aload_n 0, 1) := by decide +kernel
theorem dX1_isSame_1 : decode cX1_isSame 1 = .ok (.invokevirtual 45, 3) := by decide +kernel
theorem dX1_isSame_4 : decode cX1_isSame 4 = .ok (.astore_n 2, 1) := by decide +kernel
theorem dX1_isSame_5 : decode cX1_isSame 5 = .ok (.iconst 0, 1) := by decide +kernel
theorem dX1_isSame_6 : decode cX1_isSame 6 = .ok (.istore_n 3, 1) := by decide +kernel
theorem dX1_isSame_7 : decode cX1_isSame 7 = .ok (.iconst 0, 1) := by decide +kernel
theorem dX1_isSame_8 : decode cX1_isSame 8 = .ok (.istore 4, 2) := by decide +kernel
theorem dX1_isSame_10 : decode cX1_isSame 10 = .ok (.iconst 0, 1) := by decide +kernel
theorem dX1_isSame_11 : decode cX1_isSame 11 = .ok (.istore 5, 2) := by decide +kernel
theorem dX1_isSame_13 : decode cX1_isSame 13 = .ok (.iload 5, 2) := by decide +kernel
theorem dX1_isSame_15 : decode cX1_isSame 15 = .ok (.aload_n 0, 1) := by decide +kernel
theorem dX1_isSame_16 : decode cX1_isSame 16 = .ok (.getfield 11, 3) := by decide +kernel
theorem dX1_isSame_19 : decode cX1_isSame 19 = .ok (.arraylength, 1) := by decide +kernel
theorem dX1_isSame_20 : decode cX1_isSame 20 = .ok (.if_icmp .ge 134, 3) := by decide +kernel
theorem dX1_isSame_23 : decode cX1_isSame 23 = .ok (.aload_n 0, 1) := by decide +kernel
theorem dX1_isSame_24 : decode cX1_isSame 24 = .ok (.getfield 11, 3) := by decide +kernel
theorem dX1_isSame_27 : decode cX1_isSame 27 = .ok (.iload 5, 2) := by decide +kernel
theorem dX1_isSame_29 : decode cX1_isSame 29 = .ok (.aaload, 1) := by decide +kernel
theorem dX1_isSame_30 : decode cX1_isSame 30 = .ok (.astore 6, 2) := by decide +kernel
theorem dX1_isSame_32 : decode cX1_isSame 32 = .ok (.aload 6, 2) := by decide +kernel
theorem dX1_isSame_34 : decode cX1_isSame 34 = .ok (.iconst 3, 1) := by decide +kernel
theorem dX1_isSame_35 : decode cX1_isSame 35 = .ok (.iaload, 1) := by decide +kernel
theorem dX1_isSame_36 : decode cX1_isSame 36 = .ok (.iconst 1, 1) := by decide +kernel
theorem dX1_isSame_37 : decode cX1_isSame 37 = .ok (.if_icmp .ne 31, 3) := by decide +kernel
theorem dX1_isSame_40 : decode cX1_isSame 40 = .ok (.aload_n 2, 1) := by decide +kernel
theorem dX1_isSame_41 : decode cX1_isSame 41 = .ok (.ifnull 27, 3) := by decide +kernel
theorem dX1_isSame_44 : decode cX1_isSame 44 = .ok (.aload_n 2, 1) := by decide +kernel
theorem dX1_isSame_45 : decode cX1_isSame 45 = .ok (.aload 6, 2) := by decide +kernel
theorem dX1_isSame_47 : decode cX1_isSame 47 = .ok (.iconst 1, 1) := by decide +kernel
theorem dX1_isSame_48 : decode cX1_isSame 48 = .ok (.iaload, 1) := by decide +kernel
theorem dX1_isSame_49 : decode cX1_isSame 49 = .ok (.iaload, 1) := by decide +kernel
theorem dX1_isSame_50 : decode cX1_isSame 50 = .ok (.aload_n 2, 1) := by decide +kernel
theorem dX1_isSame_51 : decode cX1_isSame 51 = .ok (.aload 6, 2) := by decide +kernel
theorem dX1_isSame_53 : decode cX1_isSame 53 = .ok (.iconst 0, 1) := by decide +kernel
theorem dX1_isSame_54 : decode cX1_isSame 54 = .ok (.iaload, 1) := by decide +kernel
theorem dX1_isSame_55 : decode cX1_isSame 55 = .ok (.iaload, 1) := by decide +kernel
theorem dX1_isSame_56 : decode cX1_isSame 56 = .ok (.isub, 1) := by decide +kernel
theorem dX1_isSame_57 : decode cX1_isSame 57 = .ok (.aload 6, 2) := by decide +kernel
theorem dX1_isSame_59 : decode cX1_isSame 59 = .ok (.iconst 2, 1) := by decide +kernel
theorem dX1_isSame_60 : decode cX1_isSame 60 = .ok (.iaload, 1) := by decide +kernel
theorem dX1_isSame_61 : decode cX1_isSame 61 = .ok (.if_icmp .ne 7, 3) := by decide +kernel
theorem dX1_isSame_64 : decode cX1_isSame 64 = .ok (.iconst 1, 1) := by decide +kernel
theorem dX1_isSame_65 : decode cX1_isSame 65 = .ok (.goto 4, 3) := by decide +kernel
theorem dX1_isSame_68 : decode cX1_isSame 68 = .ok (.iconst 0, 1) := by decide +kernel
theorem dX1_isSame_69 : decode cX1_isSame 69 = .ok (.istore 7, 2) := by decide +kernel
theorem dX1_isSame_71 : decode cX1_isSame 71 = .ok (.iconst 0, 1) := by decide +kernel
theorem dX1_isSame_72 : decode cX1_isSame 72 = .ok (.istore 8, 2) := by decide +kernel
theorem dX1_isSame_74 : decode cX1_isSame 74 = .ok (.iload 8, 2) := by decide +kernel
theorem dX1_isSame_76 : decode cX1_isSame 76 = .ok (.iconst 4, 1) := by decide +kernel
theorem dX1_isSame_77 : decode cX1_isSame 77 = .ok (.if_icmp .ge 27, 3) := by decide +kernel
theorem dX1_isSame_80 : decode cX1_isSame 80 = .ok (.aload_n 1, 1) := by decide +kernel
theorem dX1_isSame_81 : decode cX1_isSame 81 = .ok (.iload 5, 2) := by decide +kernel
theorem dX1_isSame_83 : decode cX1_isSame 83 = .ok (.iload 8, 2) := by decide +kernel
theorem dX1_isSame_85 : decode cX1_isSame 85 = .ok (.invokevirtual 49, 3) := by decide +kernel
theorem dX1_isSame_88 : decode cX1_isSame 88 = .ok (.aload 6, 2) := by decide +kernel
theorem dX1_isSame_90 : decode cX1_isSame 90 = .ok (.iload 8, 2) := by decide +kernel
theorem dX1_isSame_92 : decode cX1_isSame 92 = .ok (.iaload, 1) := by decide +kernel
theorem dX1_isSame_93 : decode cX1_isSame 93 = .ok (.if_icmp .eq 5, 3) := by decide +kernel
theorem dX1_isSame_96 : decode cX1_isSame 96 = .ok (.iconst 0, 1) := by decide +kernel
theorem dX1_isSame_97 : decode cX1_isSame 97 = .ok (.ireturn, 1) := by decide +kernel
theorem dX1_isSame_98 : decode cX1_isSame 98 = .ok (.iinc 8 1, 3) := by decide +kernel
theorem dX1_isSame_101 : decode cX1_isSame 101 = .ok (.goto (-27), 3) := by decide +kernel
theorem dX1_isSame_104 : decode cX1_isSame 104 = .ok (.aload_n 1, 1) := by decide +kernel
theorem dX1_isSame_105 : decode cX1_isSame 105 = .ok (.iload 5, 2) := by decide +kernel
theorem dX1_isSame_107 : decode cX1_isSame 107 = .ok (.iconst 4, 1) := by decide +kernel
theorem dX1_isSame_108 : decode cX1_isSame 108 = .ok (.invokevirtual 49, 3) := by decide +kernel
theorem dX1_isSame_111 : decode cX1_isSame 111 = .ok (.iload 7, 2) := by decide +kernel
theorem dX1_isSame_113 : decode cX1_isSame 113 = .ok (.ifCond .eq 7, 3) := by decide +kernel
theorem dX1_isSame_116 : decode cX1_isSame 116 = .ok (.iconst 1, 1) := by decide +kernel
theorem dX1_isSame_117 : decode cX1_isSame 117 = .ok (.goto 4, 3) := by decide +kernel
theorem dX1_isSame_120 : decode cX1_isSame 120 = .ok (.iconst 0, 1) := by decide +kernel
theorem dX1_isSame_121 : decode cX1_isSame 121 = .ok (.if_icmp .eq 5, 3) := by decide +kernel
theorem dX1_isSame_124 : decode cX1_isSame 124 = .ok (.iconst 0, 1) := by decide +kernel
theorem dX1_isSame_125 : decode cX1_isSame 125 = .ok (.ireturn, 1) := by decide +kernel
theorem dX1_isSame_126 : decode cX1_isSame 126 = .ok (.iload_n 3, 1) := by decide +kernel
theorem dX1_isSame_127 : decode cX1_isSame 127 = .ok (.aload 6, 2) := by decide +kernel
theorem dX1_isSame_129 : decode cX1_isSame 129 = .ok (.iconst 3, 1) := by decide +kernel
theorem dX1_isSame_130 : decode cX1_isSame 130 = .ok (.iaload, 1) := by decide +kernel
theorem dX1_isSame_131 : decode cX1_isSame 131 = .ok (.iadd, 1) := by decide +kernel
theorem dX1_isSame_132 : decode cX1_isSame 132 = .ok (.istore_n 3, 1) := by decide +kernel
theorem dX1_isSame_133 : decode cX1_isSame 133 = .ok (.iload 4, 2) := by decide +kernel
theorem dX1_isSame_135 : decode cX1_isSame 135 = .ok (.iload 7, 2) := by decide +kernel
theorem dX1_isSame_137 : decode cX1_isSame 137 = .ok (.ifCond .eq 7, 3) := by decide +kernel
theorem dX1_isSame_140 : decode cX1_isSame 140 = .ok (.iconst 1, 1) := by decide +kernel
theorem dX1_isSame_141 : decode cX1_isSame 141 = .ok (.goto 4, 3) := by decide +kernel
theorem dX1_isSame_144 : decode cX1_isSame 144 = .ok (.iconst 0, 1) := by decide +kernel
theorem dX1_isSame_145 : decode cX1_isSame 145 = .ok (.iadd, 1) := by decide +kernel
theorem dX1_isSame_146 : decode cX1_isSame 146 = .ok (.istore 4, 2) := by decide +kernel
theorem dX1_isSame_148 : decode cX1_isSame 148 = .ok (.iinc 5 1, 3) := by decide +kernel
theorem dX1_isSame_151 : decode cX1_isSame 151 = .ok (.goto (-138), 3) := by decide +kernel
theorem dX1_isSame_154 : decode cX1_isSame 154 = .ok (.iconst 0, 1) := by decide +kernel
theorem dX1_isSame_155 : decode cX1_isSame 155 = .ok (.istore 5, 2) := by decide +kernel
theorem dX1_isSame_157 : decode cX1_isSame 157 = .ok (.iconst 0, 1) := by decide +kernel
theorem dX1_isSame_158 : decode cX1_isSame 158 = .ok (.istore 6, 2) := by decide +kernel
theorem dX1_isSame_160 : decode cX1_isSame 160 = .ok (.iload 6, 2) := by decide +kernel
theorem dX1_isSame_162 : decode cX1_isSame 162 = .ok (.aload_n 0, 1) := by decide +kernel
theorem dX1_isSame_163 : decode cX1_isSame 163 = .ok (.getfield 18, 3) := by decide +kernel
theorem dX1_isSame_166 : decode cX1_isSame 166 = .ok (.if_icmp .ge 168, 3) := by decide +kernel
theorem dX1_isSame_169 : decode cX1_isSame 169 = .ok (.iconst 0, 1) := by decide +kernel
theorem dX1_isSame_170 : decode cX1_isSame 170 = .ok (.istore 7, 2) := by decide +kernel
theorem dX1_isSame_172 : decode cX1_isSame 172 = .ok (.iconst 0, 1) := by decide +kernel
theorem dX1_isSame_173 : decode cX1_isSame 173 = .ok (.istore 8, 2) := by decide +kernel
theorem dX1_isSame_175 : decode cX1_isSame 175 = .ok (.aload_n 0, 1) := by decide +kernel
theorem dX1_isSame_176 : decode cX1_isSame 176 = .ok (.getfield 11, 3) := by decide +kernel
theorem dX1_isSame_179 : decode cX1_isSame 179 = .ok (.astore 9, 2) := by decide +kernel
theorem dX1_isSame_181 : decode cX1_isSame 181 = .ok (.aload 9, 2) := by decide +kernel
theorem dX1_isSame_183 : decode cX1_isSame 183 = .ok (.arraylength, 1) := by decide +kernel
theorem dX1_isSame_184 : decode cX1_isSame 184 = .ok (.istore 10, 2) := by decide +kernel
theorem dX1_isSame_186 : decode cX1_isSame 186 = .ok (.iconst 0, 1) := by decide +kernel
theorem dX1_isSame_187 : decode cX1_isSame 187 = .ok (.istore 11, 2) := by decide +kernel
theorem dX1_isSame_189 : decode cX1_isSame 189 = .ok (.iload 11, 2) := by decide +kernel
theorem dX1_isSame_191 : decode cX1_isSame 191 = .ok (.iload 10, 2) := by decide +kernel
theorem dX1_isSame_193 : decode cX1_isSame 193 = .ok (.if_icmp .ge 70, 3) := by decide +kernel
theorem dX1_isSame_196 : decode cX1_isSame 196 = .ok (.aload 9, 2) := by decide +kernel
theorem dX1_isSame_198 : decode cX1_isSame 198 = .ok (.iload 11, 2) := by decide +kernel
theorem dX1_isSame_200 : decode cX1_isSame 200 = .ok (.aaload, 1) := by decide +kernel
theorem dX1_isSame_201 : decode cX1_isSame 201 = .ok (.astore 12, 2) := by decide +kernel
theorem dX1_isSame_203 : decode cX1_isSame 203 = .ok (.iload 7, 2) := by decide +kernel
theorem dX1_isSame_205 : decode cX1_isSame 205 = .ok (.aload 12, 2) := by decide +kernel
theorem dX1_isSame_207 : decode cX1_isSame 207 = .ok (.iconst 3, 1) := by decide +kernel
theorem dX1_isSame_208 : decode cX1_isSame 208 = .ok (.iaload, 1) := by decide +kernel
theorem dX1_isSame_209 : decode cX1_isSame 209 = .ok (.iconst 1, 1) := by decide +kernel
theorem dX1_isSame_210 : decode cX1_isSame 210 = .ok (.if_icmp .ne 16, 3) := by decide +kernel
theorem dX1_isSame_213 : decode cX1_isSame 213 = .ok (.aload 12, 2) := by decide +kernel
theorem dX1_isSame_215 : decode cX1_isSame 215 = .ok (.iconst 0, 1) := by decide +kernel
theorem dX1_isSame_216 : decode cX1_isSame 216 = .ok (.iaload, 1) := by decide +kernel
theorem dX1_isSame_217 : decode cX1_isSame 217 = .ok (.iload 6, 2) := by decide +kernel
theorem dX1_isSame_219 : decode cX1_isSame 219 = .ok (.if_icmp .ne 7, 3) := by decide +kernel
theorem dX1_isSame_222 : decode cX1_isSame 222 = .ok (.iconst 1, 1) := by decide +kernel
theorem dX1_isSame_223 : decode cX1_isSame 223 = .ok (.goto 4, 3) := by decide +kernel
theorem dX1_isSame_226 : decode cX1_isSame 226 = .ok (.iconst 0, 1) := by decide +kernel
theorem dX1_isSame_227 : decode cX1_isSame 227 = .ok (.iadd, 1) := by decide +kernel
theorem dX1_isSame_228 : decode cX1_isSame 228 = .ok (.istore 7, 2) := by decide +kernel
theorem dX1_isSame_230 : decode cX1_isSame 230 = .ok (.iload 8, 2) := by decide +kernel
theorem dX1_isSame_232 : decode cX1_isSame 232 = .ok (.aload 12, 2) := by decide +kernel
theorem dX1_isSame_234 : decode cX1_isSame 234 = .ok (.iconst 3, 1) := by decide +kernel
theorem dX1_isSame_235 : decode cX1_isSame 235 = .ok (.iaload, 1) := by decide +kernel
theorem dX1_isSame_236 : decode cX1_isSame 236 = .ok (.iconst 1, 1) := by decide +kernel
theorem dX1_isSame_237 : decode cX1_isSame 237 = .ok (.if_icmp .ne 16, 3) := by decide +kernel
theorem dX1_isSame_240 : decode cX1_isSame 240 = .ok (.aload 12, 2) := by decide +kernel
theorem dX1_isSame_242 : decode cX1_isSame 242 = .ok (.iconst 1, 1) := by decide +kernel
theorem dX1_isSame_243 : decode cX1_isSame 243 = .ok (.iaload, 1) := by decide +kernel
theorem dX1_isSame_244 : decode cX1_isSame 244 = .ok (.iload 6, 2) := by decide +kernel
theorem dX1_isSame_246 : decode cX1_isSame 246 = .ok (.if_icmp .ne 7, 3) := by decide +kernel
theorem dX1_isSame_249 : decode cX1_isSame 249 = .ok (.iconst 1, 1) := by decide +kernel
theorem dX1_isSame_250 : decode cX1_isSame 250 = .ok (.goto 4, 3) := by decide +kernel
theorem dX1_isSame_253 : decode cX1_isSame 253 = .ok (.iconst 0, 1) := by decide +kernel
theorem dX1_isSame_254 : decode cX1_isSame 254 = .ok (.iadd, 1) := by decide +kernel
theorem dX1_isSame_255 : decode cX1_isSame 255 = .ok (.istore 8, 2) := by decide +kernel
theorem dX1_isSame_257 : decode cX1_isSame 257 = .ok (.iinc 11 1, 3) := by decide +kernel
theorem dX1_isSame_260 : decode cX1_isSame 260 = .ok (.goto (-71), 3) := by decide +kernel
theorem dX1_isSame_263 : decode cX1_isSame 263 = .ok (.aload_n 1, 1) := by decide +kernel
theorem dX1_isSame_264 : decode cX1_isSame 264 = .ok (.iload 6, 2) := by decide +kernel
theorem dX1_isSame_266 : decode cX1_isSame 266 = .ok (.iconst 0, 1) := by decide +kernel
theorem dX1_isSame_267 : decode cX1_isSame 267 = .ok (.invokevirtual 54, 3) := by decide +kernel
theorem dX1_isSame_270 : decode cX1_isSame 270 = .ok (.iload 7, 2) := by decide +kernel
theorem dX1_isSame_272 : decode cX1_isSame 272 = .ok (.if_icmp .ne 37, 3) := by decide +kernel
theorem dX1_isSame_275 : decode cX1_isSame 275 = .ok (.aload_n 1, 1) := by decide +kernel
theorem dX1_isSame_276 : decode cX1_isSame 276 = .ok (.iload 6, 2) := by decide +kernel
theorem dX1_isSame_278 : decode cX1_isSame 278 = .ok (.iconst 1, 1) := by decide +kernel
theorem dX1_isSame_279 : decode cX1_isSame 279 = .ok (.invokevirtual 54, 3) := by decide +kernel
theorem dX1_isSame_282 : decode cX1_isSame 282 = .ok (.iload 8, 2) := by decide +kernel
theorem dX1_isSame_284 : decode cX1_isSame 284 = .ok (.if_icmp .ne 25, 3) := by decide +kernel
theorem dX1_isSame_287 : decode cX1_isSame 287 = .ok (.aload_n 1, 1) := by decide +kernel
theorem dX1_isSame_288 : decode cX1_isSame 288 = .ok (.iload 6, 2) := by decide +kernel
theorem dX1_isSame_290 : decode cX1_isSame 290 = .ok (.iconst 2, 1) := by decide +kernel
theorem dX1_isSame_291 : decode cX1_isSame 291 = .ok (.invokevirtual 54, 3) := by decide +kernel
theorem dX1_isSame_294 : decode cX1_isSame 294 = .ok (.aload_n 2, 1) := by decide +kernel
theorem dX1_isSame_295 : decode cX1_isSame 295 = .ok (.ifnonnull 7, 3) := by decide +kernel
theorem dX1_isSame_298 : decode cX1_isSame 298 = .ok (.iconst (-1), 1) := by decide +kernel
theorem dX1_isSame_299 : decode cX1_isSame 299 = .ok (.goto 7, 3) := by decide +kernel
theorem dX1_isSame_302 : decode cX1_isSame 302 = .ok (.aload_n 2, 1) := by decide +kernel
theorem dX1_isSame_303 : decode cX1_isSame 303 = .ok (.iload 6, 2) := by decide +kernel
theorem dX1_isSame_305 : decode cX1_isSame 305 = .ok (.iaload, 1) := by decide +kernel
theorem dX1_isSame_306 : decode cX1_isSame 306 = .ok (.if_icmp .eq 5, 3) := by decide +kernel
theorem dX1_isSame_309 : decode cX1_isSame 309 = .ok (.iconst 0, 1) := by decide +kernel
theorem dX1_isSame_310 : decode cX1_isSame 310 = .ok (.ireturn, 1) := by decide +kernel
theorem dX1_isSame_311 : decode cX1_isSame 311 = .ok (.iload 5, 2) := by decide +kernel
theorem dX1_isSame_313 : decode cX1_isSame 313 = .ok (.aload_n 2, 1) := by decide +kernel
theorem dX1_isSame_314 : decode cX1_isSame 314 = .ok (.ifnonnull 7, 3) := by decide +kernel
theorem dX1_isSame_317 : decode cX1_isSame 317 = .ok (.iconst 0, 1) := by decide +kernel
theorem dX1_isSame_318 : decode cX1_isSame 318 = .ok (.goto 7, 3) := by decide +kernel
theorem dX1_isSame_321 : decode cX1_isSame 321 = .ok (.aload_n 2, 1) := by decide +kernel
theorem dX1_isSame_322 : decode cX1_isSame 322 = .ok (.iload 6, 2) := by decide +kernel
theorem dX1_isSame_324 : decode cX1_isSame 324 = .ok (.iaload, 1) := by decide +kernel
theorem dX1_isSame_325 : decode cX1_isSame 325 = .ok (.iadd, 1) := by decide +kernel
theorem dX1_isSame_326 : decode cX1_isSame 326 = .ok (.istore 5, 2) := by decide +kernel
theorem dX1_isSame_328 : decode cX1_isSame 328 = .ok (.iinc 6 1, 3) := by decide +kernel
theorem dX1_isSame_331 : decode cX1_isSame 331 = .ok (.goto (-171), 3) := by decide +kernel
theorem dX1_isSame_334 : decode cX1_isSame 334 = .ok (.bipush 7, 2) := by decide +kernel
theorem dX1_isSame_336 : decode cX1_isSame 336 = .ok (.newarray .int, 2) := by decide +kernel
theorem dX1_isSame_338 : decode cX1_isSame 338 = .ok (.dup, 1) := by decide +kernel
theorem dX1_isSame_339 : decode cX1_isSame 339 = .ok (.iconst 0, 1) := by decide +kernel
theorem dX1_isSame_340 : decode cX1_isSame 340 = .ok (.aload_n 0, 1) := by decide +kernel
theorem dX1_isSame_341 : decode cX1_isSame 341 = .ok (.getfield 18, 3) := by decide +kernel
theorem dX1_isSame_344 : decode cX1_isSame 344 = .ok (.iastore, 1) := by decide +kernel
theorem dX1_isSame_345 : decode cX1_isSame 345 = .ok (.dup, 1) := by decide +kernel
theorem dX1_isSame_346 : decode cX1_isSame 346 = .ok (.iconst 1, 1) := by decide +kernel
theorem dX1_isSame_347 : decode cX1_isSame 347 = .ok (.aload_n 0, 1) := by decide +kernel
theorem dX1_isSame_348 : decode cX1_isSame 348 = .ok (.getfield 11, 3) := by decide +kernel
theorem dX1_isSame_351 : decode cX1_isSame 351 = .ok (.arraylength, 1) := by decide +kernel
theorem dX1_isSame_352 : decode cX1_isSame 352 = .ok (.iastore, 1) := by decide +kernel
theorem dX1_isSame_353 : decode cX1_isSame 353 = .ok (.dup, 1) := by decide +kernel
theorem dX1_isSame_354 : decode cX1_isSame 354 = .ok (.iconst 2, 1) := by decide +kernel
theorem dX1_isSame_355 : decode cX1_isSame 355 = .ok (.iload_n 3, 1) := by decide +kernel
theorem dX1_isSame_356 : decode cX1_isSame 356 = .ok (.iastore, 1) := by decide +kernel
theorem dX1_isSame_357 : decode cX1_isSame 357 = .ok (.dup, 1) := by decide +kernel
theorem dX1_isSame_358 : decode cX1_isSame 358 = .ok (.iconst 3, 1) := by decide +kernel
theorem dX1_isSame_359 : decode cX1_isSame 359 = .ok (.aload_n 0, 1) := by decide +kernel
theorem dX1_isSame_360 : decode cX1_isSame 360 = .ok (.invokevirtual 57, 3) := by decide +kernel
theorem dX1_isSame_363 : decode cX1_isSame 363 = .ok (.iastore, 1) := by decide +kernel
theorem dX1_isSame_364 : decode cX1_isSame 364 = .ok (.dup, 1) := by decide +kernel
theorem dX1_isSame_365 : decode cX1_isSame 365 = .ok (.iconst 4, 1) := by decide +kernel
theorem dX1_isSame_366 : decode cX1_isSame 366 = .ok (.aload_n 2, 1) := by decide +kernel
theorem dX1_isSame_367 : decode cX1_isSame 367 = .ok (.ifnonnull 7, 3) := by decide +kernel
theorem dX1_isSame_370 : decode cX1_isSame 370 = .ok (.iconst (-1), 1) := by decide +kernel
theorem dX1_isSame_371 : decode cX1_isSame 371 = .ok (.goto 7, 3) := by decide +kernel
theorem dX1_isSame_374 : decode cX1_isSame 374 = .ok (.aload_n 2, 1) := by decide +kernel
theorem dX1_isSame_375 : decode cX1_isSame 375 = .ok (.invokestatic 61, 3) := by decide +kernel
theorem dX1_isSame_378 : decode cX1_isSame 378 = .ok (.iastore, 1) := by decide +kernel
theorem dX1_isSame_379 : decode cX1_isSame 379 = .ok (.dup, 1) := by decide +kernel
theorem dX1_isSame_380 : decode cX1_isSame 380 = .ok (.iconst 5, 1) := by decide +kernel
theorem dX1_isSame_381 : decode cX1_isSame 381 = .ok (.iload 4, 2) := by decide +kernel
theorem dX1_isSame_383 : decode cX1_isSame 383 = .ok (.iastore, 1) := by decide +kernel
theorem dX1_isSame_384 : decode cX1_isSame 384 = .ok (.dup, 1) := by decide +kernel
theorem dX1_isSame_385 : decode cX1_isSame 385 = .ok (.bipush 6, 2) := by decide +kernel
theorem dX1_isSame_387 : decode cX1_isSame 387 = .ok (.aload_n 2, 1) := by decide +kernel
theorem dX1_isSame_388 : decode cX1_isSame 388 = .ok (.ifnonnull 10, 3) := by decide +kernel
theorem dX1_isSame_391 : decode cX1_isSame 391 = .ok (.aload_n 0, 1) := by decide +kernel
theorem dX1_isSame_392 : decode cX1_isSame 392 = .ok (.invokevirtual 65, 3) := by decide +kernel
theorem dX1_isSame_395 : decode cX1_isSame 395 = .ok (.goto 4, 3) := by decide +kernel
theorem dX1_isSame_398 : decode cX1_isSame 398 = .ok (.iconst 0, 1) := by decide +kernel
theorem dX1_isSame_399 : decode cX1_isSame 399 = .ok (.iastore, 1) := by decide +kernel
theorem dX1_isSame_400 : decode cX1_isSame 400 = .ok (.astore 6, 2) := by decide +kernel
theorem dX1_isSame_402 : decode cX1_isSame 402 = .ok (.iconst 0, 1) := by decide +kernel
theorem dX1_isSame_403 : decode cX1_isSame 403 = .ok (.istore 7, 2) := by decide +kernel
theorem dX1_isSame_405 : decode cX1_isSame 405 = .ok (.iload 7, 2) := by decide +kernel
theorem dX1_isSame_407 : decode cX1_isSame 407 = .ok (.bipush 7, 2) := by decide +kernel
theorem dX1_isSame_409 : decode cX1_isSame 409 = .ok (.if_icmp .ge 25, 3) := by decide +kernel
theorem dX1_isSame_412 : decode cX1_isSame 412 = .ok (.aload_n 1, 1) := by decide +kernel
theorem dX1_isSame_413 : decode cX1_isSame 413 = .ok (.iload 7, 2) := by decide +kernel
theorem dX1_isSame_415 : decode cX1_isSame 415 = .ok (.invokevirtual 68, 3) := by decide +kernel
theorem dX1_isSame_418 : decode cX1_isSame 418 = .ok (.aload 6, 2) := by decide +kernel
theorem dX1_isSame_420 : decode cX1_isSame 420 = .ok (.iload 7, 2) := by decide +kernel
theorem dX1_isSame_422 : decode cX1_isSame 422 = .ok (.iaload, 1) := by decide +kernel
theorem dX1_isSame_423 : decode cX1_isSame 423 = .ok (.if_icmp .eq 5, 3) := by decide +kernel
theorem dX1_isSame_426 : decode cX1_isSame 426 = .ok (.iconst 0, 1) := by decide +kernel
theorem dX1_isSame_427 : decode cX1_isSame 427 = .ok (.ireturn, 1) := by decide +kernel
theorem dX1_isSame_428 : decode cX1_isSame 428 = .ok (.iinc 7 1, 3) := by decide +kernel
theorem dX1_isSame_431 : decode cX1_isSame 431 = .ok (.goto (-26), 3) := by decide +kernel
theorem dX1_isSame_434 : decode cX1_isSame 434 = .ok (.aload_n 1, 1) := by decide +kernel
theorem dX1_isSame_435 : decode cX1_isSame 435 = .ok (.invokevirtual 72, 3) := by decide +kernel
theorem dX1_isSame_438 : decode cX1_isSame 438 = .ok (.aload_n 2, 1) := by decide +kernel
theorem dX1_isSame_439 : decode cX1_isSame 439 = .ok (.ifnull 7, 3) := by decide +kernel
theorem dX1_isSame_442 : decode cX1_isSame 442 = .ok (.iconst 1, 1) := by decide +kernel
theorem dX1_isSame_443 : decode cX1_isSame 443 = .ok (.goto 4, 3) := by decide +kernel
theorem dX1_isSame_446 : decode cX1_isSame 446 = .ok (.iconst 0, 1) := by decide +kernel
theorem dX1_isSame_447 : decode cX1_isSame 447 = .ok (.if_icmp .ne 39, 3) := by decide +kernel
theorem dX1_isSame_450 : decode cX1_isSame 450 = .ok (.aload_n 1, 1) := by decide +kernel
theorem dX1_isSame_451 : decode cX1_isSame 451 = .ok (.invokevirtual 76, 3) := by decide +kernel
theorem dX1_isSame_454 : decode cX1_isSame 454 = .ok (.aload_n 0, 1) := by decide +kernel
theorem dX1_isSame_455 : decode cX1_isSame 455 = .ok (.getfield 18, 3) := by decide +kernel
theorem dX1_isSame_458 : decode cX1_isSame 458 = .ok (.ifCond .eq 7, 3) := by decide +kernel
theorem dX1_isSame_461 : decode cX1_isSame 461 = .ok (.aload_n 2, 1) := by decide +kernel
theorem dX1_isSame_462 : decode cX1_isSame 462 = .ok (.ifnonnull 7, 3) := by decide +kernel
theorem dX1_isSame_465 : decode cX1_isSame 465 = .ok (.dconst 0, 1) := by decide +kernel
theorem dX1_isSame_466 : decode cX1_isSame 466 = .ok (.goto 12, 3) := by decide +kernel
theorem dX1_isSame_469 : decode cX1_isSame 469 = .ok (.iload 5, 2) := by decide +kernel
theorem dX1_isSame_471 : decode cX1_isSame 471 = .ok (.i2d, 1) := by decide +kernel
theorem dX1_isSame_472 : decode cX1_isSame 472 = .ok (.aload_n 0, 1) := by decide +kernel
theorem dX1_isSame_473 : decode cX1_isSame 473 = .ok (.getfield 18, 3) := by decide +kernel
theorem dX1_isSame_476 : decode cX1_isSame 476 = .ok (.i2d, 1) := by decide +kernel
theorem dX1_isSame_477 : decode cX1_isSame 477 = .ok (.ddiv, 1) := by decide +kernel
theorem dX1_isSame_478 : decode cX1_isSame 478 = .ok (.dcmp .l, 1) := by decide +kernel
theorem dX1_isSame_479 : decode cX1_isSame 479 = .ok (.ifCond .ne 7, 3) := by decide +kernel
theorem dX1_isSame_482 : decode cX1_isSame 482 = .ok (.iconst 1, 1) := by decide +kernel
theorem dX1_isSame_483 : decode cX1_isSame 483 = .ok (.goto 4, 3) := by decide +kernel
theorem dX1_isSame_486 : decode cX1_isSame 486 = .ok (.iconst 0, 1) := by decide +kernel
theorem dX1_isSame_487 : decode cX1_isSame 487 = .ok (.ireturn, 1) := by decide +kernel
