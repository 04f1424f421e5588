theorem dX7_init_0 : decode cX7_init 0 = .ok (.aload_n 0, 1) := by decide +kernel
theorem dX7_init_1 : decode cX7_init 1 = .ok (.invokespecial 1, 3) := by decide +kernel
theorem dX7_init_4 : decode cX7_init 4 = .ok (.aload_n 0, 1) := by decide +kernel
theorem dX7_init_5 : decode cX7_init 5 = .ok (.sipush 1025, 3) := by decide +kernel
theorem dX7_init_8 : decode cX7_init 8 = .ok (.newarray .int, 2) := by decide +kernel
theorem dX7_init_10 : decode cX7_init 10 = .ok (.putfield 7, 3) := by decide +kernel
theorem dX7_init_13 : decode cX7_init 13 = .ok (.aload_n 0, 1) := by decide +kernel
theorem dX7_init_14 : decode cX7_init 14 = .ok (.sipush 6150, 3) := by decide +kernel
theorem dX7_init_17 : decode cX7_init 17 = .ok (.newarray .int, 2) := by decide +kernel
theorem dX7_init_19 : decode cX7_init 19 = .ok (.putfield 13, 3) := by decide +kernel
theorem dX7_init_22 : decode cX7_init 22 = .ok (.aload_n 0, 1) := by decide +kernel
theorem dX7_init_23 : decode cX7_init 23 = .ok (.sipush 1025, 3) := by decide +kernel
theorem dX7_init_26 : decode cX7_init 26 = .ok (.newarray .int, 2) := by decide +kernel
theorem dX7_init_28 : decode cX7_init 28 = .ok (.putfield 16, 3) := by decide +kernel
theorem dX7_init_31 : decode cX7_init 31 = .ok (.aload_n 0, 1) := by decide +kernel
theorem dX7_init_32 : decode cX7_init 32 = .ok (.sipush 6150, 3) := by decide +kernel
theorem dX7_init_35 : decode cX7_init 35 = .ok (.newarray .int, 2) := by decide +kernel
theorem dX7_init_37 : decode cX7_init 37 = .ok (.putfield 19, 3) := by decide +kernel
theorem dX7_init_40 : decode cX7_init 40 = .ok (.aload_n 0, 1) := by decide +kernel
theorem dX7_init_41 : decode cX7_init 41 = .ok (.iconst (-1), 1) := by decide +kernel
theorem dX7_init_42 : decode cX7_init 42 = .ok (.putfield 22, 3) := by decide +kernel
theorem dX7_init_45 : decode cX7_init 45 = .ok (.aload_n 0, 1) := by decide +kernel
theorem dX7_init_46 : decode cX7_init 46 = .ok (.bipush 100, 2) := by decide +kernel
theorem dX7_init_48 : decode cX7_init 48 = .ok (.newarray .int, 2) := by decide +kernel
theorem dX7_init_50 : decode cX7_init 50 = .ok (.putfield 26, 3) := by decide +kernel
theorem dX7_init_53 : decode cX7_init 53 = .ok (.aload_n 0, 1) := by decide +kernel
theorem dX7_init_54 : decode cX7_init 54 = .ok (.iconst 4, 1) := by decide +kernel
theorem dX7_init_55 : decode cX7_init 55 = .ok (.newarray .int, 2) := by decide +kernel
theorem dX7_init_57 : decode cX7_init 57 = .ok (.putfield 29, 3) := by decide +kernel
theorem dX7_init_60 : decode cX7_init 60 = .ok (.aload_n 0, 1) := by decide +kernel
theorem dX7_init_61 : decode cX7_init 61 = .ok (.iconst 4, 1) := by decide +kernel
theorem dX7_init_62 : decode cX7_init 62 = .ok (.newarray .int, 2) := by decide +kernel
theorem dX7_init_64 : decode cX7_init 64 = .ok (.putfield 32, 3) := by decide +kernel
theorem dX7_init_67 : decode cX7_init 67 = .ok (.aload_n 0, 1) := by decide +kernel
theorem dX7_init_68 : decode cX7_init 68 = .ok (.bipush 120, 2) := by decide +kernel
theorem dX7_init_70 : decode cX7_init 70 = .ok (.newarray .long, 2) := by decide +kernel
theorem dX7_init_72 : decode cX7_init 72 = .ok (.putfield 35, 3) := by decide +kernel
theorem dX7_init_75 : decode cX7_init 75 = .ok (.aload_n 0, 1) := by decide +kernel
theorem dX7_init_76 : decode cX7_init 76 = .ok (.sipush 512, 3) := by decide +kernel
theorem dX7_init_79 : decode cX7_init 79 = .ok (.newarray .int, 2) := by decide +kernel
theorem dX7_init_81 : decode cX7_init 81 = .ok (.putfield 39, 3) := by decide +kernel
theorem dX7_init_84 : decode cX7_init 84 = .ok (.aload_n 0, 1) := by decide +kernel
theorem dX7_init_85 : decode cX7_init 85 = .ok (.sipush 4096, 3) := by decide +kernel
theorem dX7_init_88 : decode cX7_init 88 = .ok (.newarray .int, 2) := by decide +kernel
theorem dX7_init_90 : decode cX7_init 90 = .ok (.putfield 42, 3) := by decide +kernel
theorem dX7_init_93 : decode cX7_init 93 = .ok (.aload_n 0, 1) := by decide +kernel
theorem dX7_init_94 : decode cX7_init 94 = .ok (.sipush 512, 3) := by decide +kernel
theorem dX7_init_97 : decode cX7_init 97 = .ok (.newarray .int, 2) := by decide +kernel
theorem dX7_init_99 : decode cX7_init 99 = .ok (.putfield 45, 3) := by decide +kernel
theorem dX7_init_102 : decode cX7_init 102 = .ok (.aload_n 0, 1) := by decide +kernel
theorem dX7_init_103 : decode cX7_init 103 = .ok (.sipush 1024, 3) := by decide +kernel
theorem dX7_init_106 : decode cX7_init 106 = .ok (.newarray .int, 2) := by decide +kernel
theorem dX7_init_108 : decode cX7_init 108 = .ok (.putfield 48, 3) := by decide +kernel
theorem dX7_init_111 : decode cX7_init 111 = .ok (.aload_n 0, 1) := by decide +kernel
theorem dX7_init_112 : decode cX7_init 112 = .ok (.bipush 9, 2) := by decide +kernel
theorem dX7_init_114 : decode cX7_init 114 = .ok (.newarray .int, 2) := by decide +kernel
theorem dX7_init_116 : decode cX7_init 116 = .ok (.putfield 51, 3) := by decide +kernel
theorem dX7_init_119 : decode cX7_init 119 = .ok (.aload_n 0, 1) := by decide +kernel
theorem dX7_init_120 : decode cX7_init 120 = .ok (.sipush 512, 3) := by decide +kernel
theorem dX7_init_123 : decode cX7_init 123 = .ok (.newarray .int, 2) := by decide +kernel
theorem dX7_init_125 : decode cX7_init 125 = .ok (.putfield 54, 3) := by decide +kernel
theorem dX7_init_128 : decode cX7_init 128 = .ok (.iconst 0, 1) := by decide +kernel
theorem dX7_init_129 : decode cX7_init 129 = .ok (.istore_n 1, 1) := by decide +kernel
theorem dX7_init_130 : decode cX7_init 130 = .ok (.iload_n 1, 1) := by decide +kernel
theorem dX7_init_131 : decode cX7_init 131 = .ok (.sipush 1024, 3) := by decide +kernel
theorem dX7_init_134 : decode cX7_init 134 = .ok (.if_icmp .ge 17, 3) := by decide +kernel
theorem dX7_init_137 : decode cX7_init 137 = .ok (.aload_n 0, 1) := by decide +kernel
theorem dX7_init_138 : decode cX7_init 138 = .ok (.getfield 7, 3) := by decide +kernel
theorem dX7_init_141 : decode cX7_init 141 = .ok (.iload_n 1, 1) := by decide +kernel
theorem dX7_init_142 : decode cX7_init 142 = .ok (.bipush 8, 2) := by decide +kernel
theorem dX7_init_144 : decode cX7_init 144 = .ok (.iastore, 1) := by decide +kernel
theorem dX7_init_145 : decode cX7_init 145 = .ok (.iinc 1 1, 3) := by decide +kernel
theorem dX7_init_148 : decode cX7_init 148 = .ok (.goto (-18), 3) := by decide +kernel
theorem dX7_init_151 : decode cX7_init 151 = .ok (.aload_n 0, 1) := by decide +kernel
theorem dX7_init_152 : decode cX7_init 152 = .ok (.getfield 7, 3) := by decide +kernel
theorem dX7_init_155 : decode cX7_init 155 = .ok (.sipush 1024, 3) := by decide +kernel
theorem dX7_init_158 : decode cX7_init 158 = .ok (.iconst 1, 1) := by decide +kernel
theorem dX7_init_159 : decode cX7_init 159 = .ok (.iastore, 1) := by decide +kernel
theorem dX7_init_160 : decode cX7_init 160 = .ok (.iconst 0, 1) := by decide +kernel
theorem dX7_init_161 : decode cX7_init 161 = .ok (.istore_n 1, 1) := by decide +kernel
theorem dX7_init_162 : decode cX7_init 162 = .ok (.iload_n 1, 1) := by decide +kernel
theorem dX7_init_163 : decode cX7_init 163 = .ok (.iconst 4, 1) := by decide +kernel
theorem dX7_init_164 : decode cX7_init 164 = .ok (.if_icmp .ge 17, 3) := by decide +kernel
theorem dX7_init_167 : decode cX7_init 167 = .ok (.aload_n 0, 1) := by decide +kernel
theorem dX7_init_168 : decode cX7_init 168 = .ok (.getfield 29, 3) := by decide +kernel
theorem dX7_init_171 : decode cX7_init 171 = .ok (.iload_n 1, 1) := by decide +kernel
theorem dX7_init_172 : decode cX7_init 172 = .ok (.bipush (-4), 2) := by decide +kernel
theorem dX7_init_174 : decode cX7_init 174 = .ok (.iastore, 1) := by decide +kernel
theorem dX7_init_175 : decode cX7_init 175 = .ok (.iinc 1 1, 3) := by decide +kernel
theorem dX7_init_178 : decode cX7_init 178 = .ok (.goto (-16), 3) := by decide +kernel
theorem dX7_init_181 : decode cX7_init 181 = .ok (.return_, 1) := by decide +kernel
theorem dX7_in_0 : decode cX7_in 0 = .ok (.lload_n 0, 1) := by decide +kernel
theorem dX7_in_1 : decode cX7_in 1 = .ok (.lload_n 2, 1) := by decide +kernel
theorem dX7_in_2 : decode cX7_in 2 = .ok (.lcmp, 1) := by decide +kernel
theorem dX7_in_3 : decode cX7_in 3 = .ok (.ifCond .lt 14, 3) := by decide +kernel
theorem dX7_in_6 : decode cX7_in 6 = .ok (.lload_n 0, 1) := by decide +kernel
theorem dX7_in_7 : decode cX7_in 7 = .ok (.lload 4, 2) := by decide +kernel
theorem dX7_in_9 : decode cX7_in 9 = .ok (.lcmp, 1) := by decide +kernel
theorem dX7_in_10 : decode cX7_in 10 = .ok (.ifCond .gt 7, 3) := by decide +kernel
theorem dX7_in_13 : decode cX7_in 13 = .ok (.iconst 1, 1) := by decide +kernel
theorem dX7_in_14 : decode cX7_in 14 = .ok (.goto 4, 3) := by decide +kernel
theorem dX7_in_17 : decode cX7_in 17 = .ok (.iconst 0, 1) := by decide +kernel
theorem dX7_in_18 : decode cX7_in 18 = .ok (.ireturn, 1) := by decide +kernel
theorem dX7_bring_0 : decode cX7_bring 0 = .ok (.iconst 0, 1) := by decide +kernel
theorem dX7_bring_1 : decode cX7_bring 1 = .ok (.istore 5, 2) := by decide +kernel
theorem dX7_bring_3 : decode cX7_bring 3 = .ok (.iload 5, 2) := by decide +kernel
theorem dX7_bring_5 : decode cX7_bring 5 = .ok (.iload 4, 2) := by decide +kernel
theorem dX7_bring_7 : decode cX7_bring 7 = .ok (.if_icmp .ge 21, 3) := by decide +kernel
theorem dX7_bring_10 : decode cX7_bring 10 = .ok (.aload_n 2, 1) := by decide +kernel
theorem dX7_bring_11 : decode cX7_bring 11 = .ok (.iload_n 3, 1) := by decide +kernel
theorem dX7_bring_12 : decode cX7_bring 12 = .ok (.iload 5, 2) := by decide +kernel
theorem dX7_bring_14 : decode cX7_bring 14 = .ok (.iadd, 1) := by decide +kernel
theorem dX7_bring_15 : decode cX7_bring 15 = .ok (.aload_n 0, 1) := by decide +kernel
theorem dX7_bring_16 : decode cX7_bring 16 = .ok (.iload_n 1, 1) := by decide +kernel
theorem dX7_bring_17 : decode cX7_bring 17 = .ok (.iload 5, 2) := by decide +kernel
theorem dX7_bring_19 : decode cX7_bring 19 = .ok (.iadd, 1) := by decide +kernel
theorem dX7_bring_20 : decode cX7_bring 20 = .ok (.iaload, 1) := by decide +kernel
theorem dX7_bring_21 : decode cX7_bring 21 = .ok (.iastore, 1) := by decide +kernel
theorem dX7_bring_22 : decode cX7_bring 22 = .ok (.iinc 5 1, 3) := by decide +kernel
theorem dX7_bring_25 : decode cX7_bring 25 = .ok (.goto (-22), 3) := by decide +kernel
theorem dX7_bring_28 : decode cX7_bring 28 = .ok (.return_, 1) := by decide +kernel
theorem dX7_decides_0 : decode cX7_decides 0 = .ok (.sipush 256, 3) := by decide +kernel
theorem dX7_decides_3 : decode cX7_decides 3 = .ok (.iload_n 2, 1) := by decide +kernel
theorem dX7_decides_4 : decode cX7_decides 4 = .ok (.iadd, 1) := by decide +kernel
theorem dX7_decides_5 : decode cX7_decides 5 = .ok (.istore 4, 2) := by decide +kernel
theorem dX7_decides_7 : decode cX7_decides 7 = .ok (.iload 4, 2) := by decide +kernel
theorem dX7_decides_9 : decode cX7_decides 9 = .ok (.ifCond .le 32, 3) := by decide +kernel
theorem dX7_decides_12 : decode cX7_decides 12 = .ok (.aload_n 0, 1) := by decide +kernel
theorem dX7_decides_13 : decode cX7_decides 13 = .ok (.iload_n 1, 1) := by decide +kernel
theorem dX7_decides_14 : decode cX7_decides 14 = .ok (.iload 4, 2) := by decide +kernel
theorem dX7_decides_16 : decode cX7_decides 16 = .ok (.iadd, 1) := by decide +kernel
theorem dX7_decides_17 : decode cX7_decides 17 = .ok (.iaload, 1) := by decide +kernel
theorem dX7_decides_18 : decode cX7_decides 18 = .ok (.bipush 8, 2) := by decide +kernel
theorem dX7_decides_20 : decode cX7_decides 20 = .ok (.if_icmp .eq 12, 3) := by decide +kernel
theorem dX7_decides_23 : decode cX7_decides 23 = .ok (.iload 4, 2) := by decide +kernel
theorem dX7_decides_25 : decode cX7_decides 25 = .ok (.iload_n 3, 1) := by decide +kernel
theorem dX7_decides_26 : decode cX7_decides 26 = .ok (.if_icmp .eq 6, 3) := by decide +kernel
theorem dX7_decides_29 : decode cX7_decides 29 = .ok (.iload 4, 2) := by decide +kernel
theorem dX7_decides_31 : decode cX7_decides 31 = .ok (.ireturn, 1) := by decide +kernel
theorem dX7_decides_32 : decode cX7_decides 32 = .ok (.iload 4, 2) := by decide +kernel
theorem dX7_decides_34 : decode cX7_decides 34 = .ok (.iconst 2, 1) := by decide +kernel
theorem dX7_decides_35 : decode cX7_decides 35 = .ok (.idiv, 1) := by decide +kernel
theorem dX7_decides_36 : decode cX7_decides 36 = .ok (.istore 4, 2) := by decide +kernel
theorem dX7_decides_38 : decode cX7_decides 38 = .ok (.goto (-31), 3) := by decide +kernel
theorem dX7_decides_41 : decode cX7_decides 41 = .ok (.bipush (-4), 2) := by decide +kernel
theorem dX7_decides_43 : decode cX7_decides 43 = .ok (.ireturn, 1) := by decide +kernel
set_option maxRecDepth 20000 in
theorem ggX7_hopBy_X7_decides : GoodIn wsX7_hopBy wsX7_decides := goodIn_r _ [4] (by decide +kernel) (by decide +kernel)
set_option maxRecDepth 20000 in
theorem gX7_hopBy_X7_decides : GoodIn wsX7_hopBy (va_wsS RX7 57 yX7_decides wsX7_decides) := goodIn_app (goodIn_of _ (by decide +kernel)) ggX7_hopBy_X7_decides
theorem dX7_hopBy_0 : decode cX7_hopBy 0 = .ok (.aload_n 0, 1) := by decide +kernel
theorem dX7_hopBy_1 : decode cX7_hopBy 1 = .ok (.iload_n 1, 1) := by decide +kernel
theorem dX7_hopBy_2 : decode cX7_hopBy 2 = .ok (.iload_n 2, 1) := by decide +kernel
theorem dX7_hopBy_3 : decode cX7_hopBy 3 = .ok (.iload_n 3, 1) := by decide +kernel
theorem dX7_hopBy_4 : decode cX7_hopBy 4 = .ok (.invokestatic 57, 3) := by decide +kernel
theorem dX7_hopBy_7 : decode cX7_hopBy 7 = .ok (.istore 4, 2) := by decide +kernel
theorem dX7_hopBy_9 : decode cX7_hopBy 9 = .ok (.iload 4, 2) := by decide +kernel
theorem dX7_hopBy_11 : decode cX7_hopBy 11 = .ok (.bipush (-4), 2) := by decide +kernel
theorem dX7_hopBy_13 : decode cX7_hopBy 13 = .ok (.if_icmp .ne 7, 3) := by decide +kernel
theorem dX7_hopBy_16 : decode cX7_hopBy 16 = .ok (.iconst 0, 1) := by decide +kernel
theorem dX7_hopBy_17 : decode cX7_hopBy 17 = .ok (.goto 9, 3) := by decide +kernel
theorem dX7_hopBy_20 : decode cX7_hopBy 20 = .ok (.aload_n 0, 1) := by decide +kernel
theorem dX7_hopBy_21 : decode cX7_hopBy 21 = .ok (.iload_n 1, 1) := by decide +kernel
theorem dX7_hopBy_22 : decode cX7_hopBy 22 = .ok (.iload 4, 2) := by decide +kernel
theorem dX7_hopBy_24 : decode cX7_hopBy 24 = .ok (.iadd, 1) := by decide +kernel
theorem dX7_hopBy_25 : decode cX7_hopBy 25 = .ok (.iaload, 1) := by decide +kernel
theorem dX7_hopBy_26 : decode cX7_hopBy 26 = .ok (.ireturn, 1) := by decide +kernel
theorem dX7_lesser_0 : decode cX7_lesser 0 = .ok (.iload_n 0, 1) := by decide +kernel
theorem dX7_lesser_1 : decode cX7_lesser 1 = .ok (.iload_n 1, 1) := by decide +kernel
theorem dX7_lesser_2 : decode cX7_lesser 2 = .ok (.if_icmp .ge 7, 3) := by decide +kernel
theorem dX7_lesser_5 : decode cX7_lesser 5 = .ok (.iload_n 0, 1) := by decide +kernel
theorem dX7_lesser_6 : decode cX7_lesser 6 = .ok (.goto 4, 3) := by decide +kernel
theorem dX7_lesser_9 : decode cX7_lesser 9 = .ok (.iload_n 1, 1) := by decide +kernel
theorem dX7_lesser_10 : decode cX7_lesser 10 = .ok (.ireturn, 1) := by decide +kernel
set_option maxRecDepth 20000 in
theorem ggX7_laysCosts_X7_lesser : GoodIn wsX7_laysCosts wsX7_lesser := goodIn_r _ [6] (by decide +kernel) (by decide +kernel)
set_option maxRecDepth 20000 in
theorem gX7_laysCosts_X7_lesser : GoodIn wsX7_laysCosts (va_wsS RX7 61 yX7_lesser wsX7_lesser) := goodIn_app (goodIn_of _ (by decide +kernel)) ggX7_laysCosts_X7_lesser
theorem dX7_laysCosts_0 : decode cX7_laysCosts 0 = .ok (.sipush 511, 3) := by decide +kernel
theorem dX7_laysCosts_3 : decode cX7_laysCosts 3 = .ok (.istore_n 1, 1) := by decide +kernel
theorem dX7_laysCosts_4 : decode cX7_laysCosts 4 = .ok (.iload_n 1, 1) := by decide +kernel
theorem dX7_laysCosts_5 : decode cX7_laysCosts 5 = .ok (.ifCond .le 168, 3) := by decide +kernel
theorem dX7_laysCosts_8 : decode cX7_laysCosts 8 = .ok (.iconst 1, 1) := by decide +kernel
theorem dX7_laysCosts_9 : decode cX7_laysCosts 9 = .ok (.istore_n 2, 1) := by decide +kernel
theorem dX7_laysCosts_10 : decode cX7_laysCosts 10 = .ok (.iconst 0, 1) := by decide +kernel
theorem dX7_laysCosts_11 : decode cX7_laysCosts 11 = .ok (.istore_n 3, 1) := by decide +kernel
theorem dX7_laysCosts_12 : decode cX7_laysCosts 12 = .ok (.iload_n 3, 1) := by decide +kernel
theorem dX7_laysCosts_13 : decode cX7_laysCosts 13 = .ok (.bipush 8, 2) := by decide +kernel
theorem dX7_laysCosts_15 : decode cX7_laysCosts 15 = .ok (.if_icmp .ge 64, 3) := by decide +kernel
theorem dX7_laysCosts_18 : decode cX7_laysCosts 18 = .ok (.iload_n 1, 1) := by decide +kernel
theorem dX7_laysCosts_19 : decode cX7_laysCosts 19 = .ok (.sipush 256, 3) := by decide +kernel
theorem dX7_laysCosts_22 : decode cX7_laysCosts 22 = .ok (.if_icmp .ge 57, 3) := by decide +kernel
theorem dX7_laysCosts_25 : decode cX7_laysCosts 25 = .ok (.aload_n 0, 1) := by decide +kernel
theorem dX7_laysCosts_26 : decode cX7_laysCosts 26 = .ok (.getfield 42, 3) := by decide +kernel
theorem dX7_laysCosts_29 : decode cX7_laysCosts 29 = .ok (.bipush 16, 2) := by decide +kernel
theorem dX7_laysCosts_31 : decode cX7_laysCosts 31 = .ok (.iload_n 1, 1) := by decide +kernel
theorem dX7_laysCosts_32 : decode cX7_laysCosts 32 = .ok (.imul, 1) := by decide +kernel
theorem dX7_laysCosts_33 : decode cX7_laysCosts 33 = .ok (.iload_n 3, 1) := by decide +kernel
theorem dX7_laysCosts_34 : decode cX7_laysCosts 34 = .ok (.iadd, 1) := by decide +kernel
theorem dX7_laysCosts_35 : decode cX7_laysCosts 35 = .ok (.iaload, 1) := by decide +kernel
theorem dX7_laysCosts_36 : decode cX7_laysCosts 36 = .ok (.aload_n 0, 1) := by decide +kernel
theorem dX7_laysCosts_37 : decode cX7_laysCosts 37 = .ok (.getfield 42, 3) := by decide +kernel
theorem dX7_laysCosts_40 : decode cX7_laysCosts 40 = .ok (.bipush 16, 2) := by decide +kernel
theorem dX7_laysCosts_42 : decode cX7_laysCosts 42 = .ok (.iload_n 1, 1) := by decide +kernel
theorem dX7_laysCosts_43 : decode cX7_laysCosts 43 = .ok (.imul, 1) := by decide +kernel
theorem dX7_laysCosts_44 : decode cX7_laysCosts 44 = .ok (.bipush 8, 2) := by decide +kernel
theorem dX7_laysCosts_46 : decode cX7_laysCosts 46 = .ok (.iadd, 1) := by decide +kernel
theorem dX7_laysCosts_47 : decode cX7_laysCosts 47 = .ok (.iload_n 3, 1) := by decide +kernel
theorem dX7_laysCosts_48 : decode cX7_laysCosts 48 = .ok (.iadd, 1) := by decide +kernel
theorem dX7_laysCosts_49 : decode cX7_laysCosts 49 = .ok (.iaload, 1) := by decide +kernel
theorem dX7_laysCosts_50 : decode cX7_laysCosts 50 = .ok (.iadd, 1) := by decide +kernel
theorem dX7_laysCosts_51 : decode cX7_laysCosts 51 = .ok (.istore 4, 2) := by decide +kernel
theorem dX7_laysCosts_53 : decode cX7_laysCosts 53 = .ok (.iload_n 3, 1) := by decide +kernel
theorem dX7_laysCosts_54 : decode cX7_laysCosts 54 = .ok (.ifCond .ne 10, 3) := by decide +kernel
theorem dX7_laysCosts_57 : decode cX7_laysCosts 57 = .ok (.iload 4, 2) := by decide +kernel
theorem dX7_laysCosts_59 : decode cX7_laysCosts 59 = .ok (.iconst 1, 1) := by decide +kernel
theorem dX7_laysCosts_60 : decode cX7_laysCosts 60 = .ok (.iadd, 1) := by decide +kernel
theorem dX7_laysCosts_61 : decode cX7_laysCosts 61 = .ok (.goto 11, 3) := by decide +kernel
theorem dX7_laysCosts_64 : decode cX7_laysCosts 64 = .ok (.iload_n 2, 1) := by decide +kernel
theorem dX7_laysCosts_65 : decode cX7_laysCosts 65 = .ok (.iload 4, 2) := by decide +kernel
theorem dX7_laysCosts_67 : decode cX7_laysCosts 67 = .ok (.iconst 1, 1) := by decide +kernel
theorem dX7_laysCosts_68 : decode cX7_laysCosts 68 = .ok (.iadd, 1) := by decide +kernel
theorem dX7_laysCosts_69 : decode cX7_laysCosts 69 = .ok (.invokestatic 61, 3) := by decide +kernel
theorem dX7_laysCosts_72 : decode cX7_laysCosts 72 = .ok (.istore_n 2, 1) := by decide +kernel
theorem dX7_laysCosts_73 : decode cX7_laysCosts 73 = .ok (.iinc 3 1, 3) := by decide +kernel
theorem dX7_laysCosts_76 : decode cX7_laysCosts 76 = .ok (.goto (-64), 3) := by decide +kernel
theorem dX7_laysCosts_79 : decode cX7_laysCosts 79 = .ok (.iconst 0, 1) := by decide +kernel
theorem dX7_laysCosts_80 : decode cX7_laysCosts 80 = .ok (.istore_n 3, 1) := by decide +kernel
theorem dX7_laysCosts_81 : decode cX7_laysCosts 81 = .ok (.iload_n 3, 1) := by decide +kernel
theorem dX7_laysCosts_82 : decode cX7_laysCosts 82 = .ok (.bipush 8, 2) := by decide +kernel
theorem dX7_laysCosts_84 : decode cX7_laysCosts 84 = .ok (.if_icmp .ge 83, 3) := by decide +kernel
theorem dX7_laysCosts_87 : decode cX7_laysCosts 87 = .ok (.iload_n 1, 1) := by decide +kernel
theorem dX7_laysCosts_88 : decode cX7_laysCosts 88 = .ok (.sipush 256, 3) := by decide +kernel
theorem dX7_laysCosts_91 : decode cX7_laysCosts 91 = .ok (.if_icmp .lt 25, 3) := by decide +kernel
theorem dX7_laysCosts_94 : decode cX7_laysCosts 94 = .ok (.aload_n 0, 1) := by decide +kernel
theorem dX7_laysCosts_95 : decode cX7_laysCosts 95 = .ok (.getfield 45, 3) := by decide +kernel
theorem dX7_laysCosts_98 : decode cX7_laysCosts 98 = .ok (.iload_n 1, 1) := by decide +kernel
theorem dX7_laysCosts_99 : decode cX7_laysCosts 99 = .ok (.sipush 256, 3) := by decide +kernel
theorem dX7_laysCosts_102 : decode cX7_laysCosts 102 = .ok (.isub, 1) := by decide +kernel
theorem dX7_laysCosts_103 : decode cX7_laysCosts 103 = .ok (.iaload, 1) := by decide +kernel
theorem dX7_laysCosts_104 : decode cX7_laysCosts 104 = .ok (.iload_n 3, 1) := by decide +kernel
theorem dX7_laysCosts_105 : decode cX7_laysCosts 105 = .ok (.if_icmp .ne 7, 3) := by decide +kernel
theorem dX7_laysCosts_108 : decode cX7_laysCosts 108 = .ok (.iconst 0, 1) := by decide +kernel
theorem dX7_laysCosts_109 : decode cX7_laysCosts 109 = .ok (.goto 33, 3) := by decide +kernel
theorem dX7_laysCosts_112 : decode cX7_laysCosts 112 = .ok (.iconst 1, 1) := by decide +kernel
theorem dX7_laysCosts_113 : decode cX7_laysCosts 113 = .ok (.goto 29, 3) := by decide +kernel
theorem dX7_laysCosts_116 : decode cX7_laysCosts 116 = .ok (.aload_n 0, 1) := by decide +kernel
theorem dX7_laysCosts_117 : decode cX7_laysCosts 117 = .ok (.getfield 42, 3) := by decide +kernel
theorem dX7_laysCosts_120 : decode cX7_laysCosts 120 = .ok (.bipush 16, 2) := by decide +kernel
theorem dX7_laysCosts_122 : decode cX7_laysCosts 122 = .ok (.iload_n 1, 1) := by decide +kernel
theorem dX7_laysCosts_123 : decode cX7_laysCosts 123 = .ok (.imul, 1) := by decide +kernel
theorem dX7_laysCosts_124 : decode cX7_laysCosts 124 = .ok (.iload_n 3, 1) := by decide +kernel
theorem dX7_laysCosts_125 : decode cX7_laysCosts 125 = .ok (.iadd, 1) := by decide +kernel
theorem dX7_laysCosts_126 : decode cX7_laysCosts 126 = .ok (.iaload, 1) := by decide +kernel
theorem dX7_laysCosts_127 : decode cX7_laysCosts 127 = .ok (.aload_n 0, 1) := by decide +kernel
theorem dX7_laysCosts_128 : decode cX7_laysCosts 128 = .ok (.getfield 42, 3) := by decide +kernel
theorem dX7_laysCosts_131 : decode cX7_laysCosts 131 = .ok (.bipush 16, 2) := by decide +kernel
theorem dX7_laysCosts_133 : decode cX7_laysCosts 133 = .ok (.iload_n 1, 1) := by decide +kernel
theorem dX7_laysCosts_134 : decode cX7_laysCosts 134 = .ok (.imul, 1) := by decide +kernel
theorem dX7_laysCosts_135 : decode cX7_laysCosts 135 = .ok (.bipush 8, 2) := by decide +kernel
theorem dX7_laysCosts_137 : decode cX7_laysCosts 137 = .ok (.iadd, 1) := by decide +kernel
theorem dX7_laysCosts_138 : decode cX7_laysCosts 138 = .ok (.iload_n 3, 1) := by decide +kernel
theorem dX7_laysCosts_139 : decode cX7_laysCosts 139 = .ok (.iadd, 1) := by decide +kernel
theorem dX7_laysCosts_140 : decode cX7_laysCosts 140 = .ok (.iaload, 1) := by decide +kernel
theorem dX7_laysCosts_141 : decode cX7_laysCosts 141 = .ok (.iadd, 1) := by decide +kernel
theorem dX7_laysCosts_142 : decode cX7_laysCosts 142 = .ok (.istore 4, 2) := by decide +kernel
theorem dX7_laysCosts_144 : decode cX7_laysCosts 144 = .ok (.aload_n 0, 1) := by decide +kernel
theorem dX7_laysCosts_145 : decode cX7_laysCosts 145 = .ok (.getfield 42, 3) := by decide +kernel
theorem dX7_laysCosts_148 : decode cX7_laysCosts 148 = .ok (.bipush 8, 2) := by decide +kernel
theorem dX7_laysCosts_150 : decode cX7_laysCosts 150 = .ok (.iload_n 1, 1) := by decide +kernel
theorem dX7_laysCosts_151 : decode cX7_laysCosts 151 = .ok (.imul, 1) := by decide +kernel
theorem dX7_laysCosts_152 : decode cX7_laysCosts 152 = .ok (.iload_n 3, 1) := by decide +kernel
theorem dX7_laysCosts_153 : decode cX7_laysCosts 153 = .ok (.iadd, 1) := by decide +kernel
theorem dX7_laysCosts_154 : decode cX7_laysCosts 154 = .ok (.iload 4, 2) := by decide +kernel
theorem dX7_laysCosts_156 : decode cX7_laysCosts 156 = .ok (.iload_n 2, 1) := by decide +kernel
theorem dX7_laysCosts_157 : decode cX7_laysCosts 157 = .ok (.invokestatic 61, 3) := by decide +kernel
theorem dX7_laysCosts_160 : decode cX7_laysCosts 160 = .ok (.iastore, 1) := by decide +kernel
theorem dX7_laysCosts_161 : decode cX7_laysCosts 161 = .ok (.iinc 3 1, 3) := by decide +kernel
theorem dX7_laysCosts_164 : decode cX7_laysCosts 164 = .ok (.goto (-83), 3) := by decide +kernel
theorem dX7_laysCosts_167 : decode cX7_laysCosts 167 = .ok (.iinc 1 (-1), 3) := by decide +kernel
theorem dX7_laysCosts_170 : decode cX7_laysCosts 170 = .ok (.goto (-166), 3) := by decide +kernel
theorem dX7_laysCosts_173 : decode cX7_laysCosts 173 = .ok (.return_, 1) := by decide +kernel
set_option maxRecDepth 20000 in
theorem ggX7_ease_X7_lesser : GoodIn wsX7_ease wsX7_lesser := goodIn_r _ [5] (by decide +kernel) (by decide +kernel)
set_option maxRecDepth 20000 in
theorem gX7_ease_X7_lesser : GoodIn wsX7_ease (va_wsS RX7 61 yX7_lesser wsX7_lesser) := goodIn_app (goodIn_of _ (by decide +kernel)) ggX7_ease_X7_lesser
theorem dX7_ease_0 : decode cX7_ease 0 = .ok (.aload_n 0, 1) := by decide +kernel
theorem dX7_ease_1 : decode cX7_ease 1 = .ok (.getfield 42, 3) := by decide +kernel
theorem dX7_ease_4 : decode cX7_ease 4 = .ok (.bipush 8, 2) := by decide +kernel
theorem dX7_ease_6 : decode cX7_ease 6 = .ok (.iload_n 1, 1) := by decide +kernel
theorem dX7_ease_7 : decode cX7_ease 7 = .ok (.imul, 1) := by decide +kernel
theorem dX7_ease_8 : decode cX7_ease 8 = .ok (.iaload, 1) := by decide +kernel
theorem dX7_ease_9 : decode cX7_ease 9 = .ok (.istore_n 2, 1) := by decide +kernel
theorem dX7_ease_10 : decode cX7_ease 10 = .ok (.iconst 1, 1) := by decide +kernel
theorem dX7_ease_11 : decode cX7_ease 11 = .ok (.istore_n 3, 1) := by decide +kernel
theorem dX7_ease_12 : decode cX7_ease 12 = .ok (.iload_n 3, 1) := by decide +kernel
theorem dX7_ease_13 : decode cX7_ease 13 = .ok (.bipush 8, 2) := by decide +kernel
theorem dX7_ease_15 : decode cX7_ease 15 = .ok (.if_icmp .ge 25, 3) := by decide +kernel
theorem dX7_ease_18 : decode cX7_ease 18 = .ok (.iload_n 2, 1) := by decide +kernel
theorem dX7_ease_19 : decode cX7_ease 19 = .ok (.aload_n 0, 1) := by decide +kernel
theorem dX7_ease_20 : decode cX7_ease 20 = .ok (.getfield 42, 3) := by decide +kernel
theorem dX7_ease_23 : decode cX7_ease 23 = .ok (.bipush 8, 2) := by decide +kernel
theorem dX7_ease_25 : decode cX7_ease 25 = .ok (.iload_n 1, 1) := by decide +kernel
theorem dX7_ease_26 : decode cX7_ease 26 = .ok (.imul, 1) := by decide +kernel
theorem dX7_ease_27 : decode cX7_ease 27 = .ok (.iload_n 3, 1) := by decide +kernel
theorem dX7_ease_28 : decode cX7_ease 28 = .ok (.iadd, 1) := by decide +kernel
theorem dX7_ease_29 : decode cX7_ease 29 = .ok (.iaload, 1) := by decide +kernel
theorem dX7_ease_30 : decode cX7_ease 30 = .ok (.invokestatic 61, 3) := by decide +kernel
theorem dX7_ease_33 : decode cX7_ease 33 = .ok (.istore_n 2, 1) := by decide +kernel
theorem dX7_ease_34 : decode cX7_ease 34 = .ok (.iinc 3 1, 3) := by decide +kernel
theorem dX7_ease_37 : decode cX7_ease 37 = .ok (.goto (-25), 3) := by decide +kernel
theorem dX7_ease_40 : decode cX7_ease 40 = .ok (.iload_n 2, 1) := by decide +kernel
theorem dX7_ease_41 : decode cX7_ease 41 = .ok (.ireturn, 1) := by decide +kernel
set_option maxRecDepth 20000 in
theorem ggX7_setOf_X7_ease : GoodIn wsX7_setOf wsX7_ease := goodIn_r _ [6, 1, 7, 8, 5, 9, 10, 11, 12, 13, 14, 15, 16, 17, 18, 19, 20, 21, 22, 23, 24, 25, 26, 27] (by decide +kernel) (by decide +kernel)
set_option maxRecDepth 20000 in
theorem gX7_setOf_X7_ease : GoodIn wsX7_setOf (wsV RX7 65 RX7 yX7_ease wsX7_ease) := goodIn_app (goodIn_of _ (by decide +kernel)) ggX7_setOf_X7_ease
theorem dX7_setOf_0 : decode cX7_setOf 0 = .ok (.iconst 0, 1) := by decide +kernel
theorem dX7_setOf_1 : decode cX7_setOf 1 = .ok (.istore_n 2, 1) := by decide +kernel
theorem dX7_setOf_2 : decode cX7_setOf 2 = .ok (.iconst 0, 1) := by decide +kernel
theorem dX7_setOf_3 : decode cX7_setOf 3 = .ok (.istore_n 3, 1) := by decide +kernel
theorem dX7_setOf_4 : decode cX7_setOf 4 = .ok (.iload_n 3, 1) := by decide +kernel
theorem dX7_setOf_5 : decode cX7_setOf 5 = .ok (.bipush 8, 2) := by decide +kernel
theorem dX7_setOf_7 : decode cX7_setOf 7 = .ok (.if_icmp .ge 38, 3) := by decide +kernel
theorem dX7_setOf_10 : decode cX7_setOf 10 = .ok (.iload_n 2, 1) := by decide +kernel
theorem dX7_setOf_11 : decode cX7_setOf 11 = .ok (.aload_n 0, 1) := by decide +kernel
theorem dX7_setOf_12 : decode cX7_setOf 12 = .ok (.getfield 42, 3) := by decide +kernel
theorem dX7_setOf_15 : decode cX7_setOf 15 = .ok (.bipush 8, 2) := by decide +kernel
theorem dX7_setOf_17 : decode cX7_setOf 17 = .ok (.iload_n 1, 1) := by decide +kernel
theorem dX7_setOf_18 : decode cX7_setOf 18 = .ok (.imul, 1) := by decide +kernel
theorem dX7_setOf_19 : decode cX7_setOf 19 = .ok (.iload_n 3, 1) := by decide +kernel
theorem dX7_setOf_20 : decode cX7_setOf 20 = .ok (.iadd, 1) := by decide +kernel
theorem dX7_setOf_21 : decode cX7_setOf 21 = .ok (.iaload, 1) := by decide +kernel
theorem dX7_setOf_22 : decode cX7_setOf 22 = .ok (.aload_n 0, 1) := by decide +kernel
theorem dX7_setOf_23 : decode cX7_setOf 23 = .ok (.iload_n 1, 1) := by decide +kernel
theorem dX7_setOf_24 : decode cX7_setOf 24 = .ok (.invokevirtual 65, 3) := by decide +kernel
theorem dX7_setOf_27 : decode cX7_setOf 27 = .ok (.if_icmp .ne 9, 3) := by decide +kernel
theorem dX7_setOf_30 : decode cX7_setOf 30 = .ok (.iconst 1, 1) := by decide +kernel
theorem dX7_setOf_31 : decode cX7_setOf 31 = .ok (.iload_n 3, 1) := by decide +kernel
theorem dX7_setOf_32 : decode cX7_setOf 32 = .ok (.ishl, 1) := by decide +kernel
theorem dX7_setOf_33 : decode cX7_setOf 33 = .ok (.goto 4, 3) := by decide +kernel
theorem dX7_setOf_36 : decode cX7_setOf 36 = .ok (.iconst 0, 1) := by decide +kernel
theorem dX7_setOf_37 : decode cX7_setOf 37 = .ok (.ior, 1) := by decide +kernel
theorem dX7_setOf_38 : decode cX7_setOf 38 = .ok (.istore_n 2, 1) := by decide +kernel
theorem dX7_setOf_39 : decode cX7_setOf 39 = .ok (.iinc 3 1, 3) := by decide +kernel
theorem dX7_setOf_42 : decode cX7_setOf 42 = .ok (.goto (-38), 3) := by decide +kernel
theorem dX7_setOf_45 : decode cX7_setOf 45 = .ok (.iload_n 2, 1) := by decide +kernel
theorem dX7_setOf_46 : decode cX7_setOf 46 = .ok (.ireturn, 1) := by decide +kernel
set_option maxRecDepth 20000 in
theorem ggX7_laysLeast_X7_setOf : GoodIn wsX7_laysLeast wsX7_setOf := goodIn_r _ [7, 8, 9, 10, 11, 6, 12, 13, 14, 15, 16, 17, 18, 19, 20, 21, 22, 23, 24, 25, 26, 27, 28, 29, 30, 31, 32, 33] (by decide +kernel) (by decide +kernel)
set_option maxRecDepth 20000 in
theorem gX7_laysLeast_X7_setOf : GoodIn wsX7_laysLeast (wsV RX7 69 RX7 yX7_setOf wsX7_setOf) := goodIn_app (goodIn_of _ (by decide +kernel)) ggX7_laysLeast_X7_setOf
theorem dX7_laysLeast_0 : decode cX7_laysLeast 0 = .ok (.aload_n 0, 1) := by decide +kernel
theorem dX7_laysLeast_1 : decode cX7_laysLeast 1 = .ok (.getfield 48, 3) := by decide +kernel
theorem dX7_laysLeast_4 : decode cX7_laysLeast 4 = .ok (.iconst 1, 1) := by decide +kernel
theorem dX7_laysLeast_5 : decode cX7_laysLeast 5 = .ok (.iconst 0, 1) := by decide +kernel
theorem dX7_laysLeast_6 : decode cX7_laysLeast 6 = .ok (.iastore, 1) := by decide +kernel
theorem dX7_laysLeast_7 : decode cX7_laysLeast 7 = .ok (.iconst 1, 1) := by decide +kernel
theorem dX7_laysLeast_8 : decode cX7_laysLeast 8 = .ok (.istore_n 1, 1) := by decide +kernel
theorem dX7_laysLeast_9 : decode cX7_laysLeast 9 = .ok (.iload_n 1, 1) := by decide +kernel
theorem dX7_laysLeast_10 : decode cX7_laysLeast 10 = .ok (.sipush 512, 3) := by decide +kernel
theorem dX7_laysLeast_13 : decode cX7_laysLeast 13 = .ok (.if_icmp .ge 96, 3) := by decide +kernel
theorem dX7_laysLeast_16 : decode cX7_laysLeast 16 = .ok (.aload_n 0, 1) := by decide +kernel
theorem dX7_laysLeast_17 : decode cX7_laysLeast 17 = .ok (.iload_n 1, 1) := by decide +kernel
theorem dX7_laysLeast_18 : decode cX7_laysLeast 18 = .ok (.invokevirtual 69, 3) := by decide +kernel
theorem dX7_laysLeast_21 : decode cX7_laysLeast 21 = .ok (.istore_n 2, 1) := by decide +kernel
theorem dX7_laysLeast_22 : decode cX7_laysLeast 22 = .ok (.aload_n 0, 1) := by decide +kernel
theorem dX7_laysLeast_23 : decode cX7_laysLeast 23 = .ok (.getfield 39, 3) := by decide +kernel
theorem dX7_laysLeast_26 : decode cX7_laysLeast 26 = .ok (.iload_n 1, 1) := by decide +kernel
theorem dX7_laysLeast_27 : decode cX7_laysLeast 27 = .ok (.bipush 8, 2) := by decide +kernel
theorem dX7_laysLeast_29 : decode cX7_laysLeast 29 = .ok (.iastore, 1) := by decide +kernel
theorem dX7_laysLeast_30 : decode cX7_laysLeast 30 = .ok (.iload_n 2, 1) := by decide +kernel
theorem dX7_laysLeast_31 : decode cX7_laysLeast 31 = .ok (.aload_n 0, 1) := by decide +kernel
theorem dX7_laysLeast_32 : decode cX7_laysLeast 32 = .ok (.getfield 48, 3) := by decide +kernel
theorem dX7_laysLeast_35 : decode cX7_laysLeast 35 = .ok (.iload_n 1, 1) := by decide +kernel
theorem dX7_laysLeast_36 : decode cX7_laysLeast 36 = .ok (.iaload, 1) := by decide +kernel
theorem dX7_laysLeast_37 : decode cX7_laysLeast 37 = .ok (.ishr, 1) := by decide +kernel
theorem dX7_laysLeast_38 : decode cX7_laysLeast 38 = .ok (.iconst 1, 1) := by decide +kernel
theorem dX7_laysLeast_39 : decode cX7_laysLeast 39 = .ok (.iand, 1) := by decide +kernel
theorem dX7_laysLeast_40 : decode cX7_laysLeast 40 = .ok (.ifCond .ne 33, 3) := by decide +kernel
theorem dX7_laysLeast_43 : decode cX7_laysLeast 43 = .ok (.iconst 0, 1) := by decide +kernel
theorem dX7_laysLeast_44 : decode cX7_laysLeast 44 = .ok (.istore_n 3, 1) := by decide +kernel
theorem dX7_laysLeast_45 : decode cX7_laysLeast 45 = .ok (.iload_n 2, 1) := by decide +kernel
theorem dX7_laysLeast_46 : decode cX7_laysLeast 46 = .ok (.iload_n 3, 1) := by decide +kernel
theorem dX7_laysLeast_47 : decode cX7_laysLeast 47 = .ok (.ishr, 1) := by decide +kernel
theorem dX7_laysLeast_48 : decode cX7_laysLeast 48 = .ok (.iconst 1, 1) := by decide +kernel
theorem dX7_laysLeast_49 : decode cX7_laysLeast 49 = .ok (.iand, 1) := by decide +kernel
theorem dX7_laysLeast_50 : decode cX7_laysLeast 50 = .ok (.ifCond .ne 9, 3) := by decide +kernel
theorem dX7_laysLeast_53 : decode cX7_laysLeast 53 = .ok (.iinc 3 1, 3) := by decide +kernel
theorem dX7_laysLeast_56 : decode cX7_laysLeast 56 = .ok (.goto (-11), 3) := by decide +kernel
theorem dX7_laysLeast_59 : decode cX7_laysLeast 59 = .ok (.aload_n 0, 1) := by decide +kernel
theorem dX7_laysLeast_60 : decode cX7_laysLeast 60 = .ok (.getfield 39, 3) := by decide +kernel
theorem dX7_laysLeast_63 : decode cX7_laysLeast 63 = .ok (.iload_n 1, 1) := by decide +kernel
theorem dX7_laysLeast_64 : decode cX7_laysLeast 64 = .ok (.iload_n 3, 1) := by decide +kernel
theorem dX7_laysLeast_65 : decode cX7_laysLeast 65 = .ok (.iastore, 1) := by decide +kernel
theorem dX7_laysLeast_66 : decode cX7_laysLeast 66 = .ok (.aload_n 0, 1) := by decide +kernel
theorem dX7_laysLeast_67 : decode cX7_laysLeast 67 = .ok (.getfield 48, 3) := by decide +kernel
theorem dX7_laysLeast_70 : decode cX7_laysLeast 70 = .ok (.iload_n 1, 1) := by decide +kernel
theorem dX7_laysLeast_71 : decode cX7_laysLeast 71 = .ok (.iload_n 3, 1) := by decide +kernel
theorem dX7_laysLeast_72 : decode cX7_laysLeast 72 = .ok (.iastore, 1) := by decide +kernel
theorem dX7_laysLeast_73 : decode cX7_laysLeast 73 = .ok (.aload_n 0, 1) := by decide +kernel
theorem dX7_laysLeast_74 : decode cX7_laysLeast 74 = .ok (.getfield 48, 3) := by decide +kernel
theorem dX7_laysLeast_77 : decode cX7_laysLeast 77 = .ok (.iconst 2, 1) := by decide +kernel
theorem dX7_laysLeast_78 : decode cX7_laysLeast 78 = .ok (.iload_n 1, 1) := by decide +kernel
theorem dX7_laysLeast_79 : decode cX7_laysLeast 79 = .ok (.imul, 1) := by decide +kernel
theorem dX7_laysLeast_80 : decode cX7_laysLeast 80 = .ok (.aload_n 0, 1) := by decide +kernel
theorem dX7_laysLeast_81 : decode cX7_laysLeast 81 = .ok (.getfield 48, 3) := by decide +kernel
theorem dX7_laysLeast_84 : decode cX7_laysLeast 84 = .ok (.iload_n 1, 1) := by decide +kernel
theorem dX7_laysLeast_85 : decode cX7_laysLeast 85 = .ok (.iaload, 1) := by decide +kernel
theorem dX7_laysLeast_86 : decode cX7_laysLeast 86 = .ok (.iastore, 1) := by decide +kernel
theorem dX7_laysLeast_87 : decode cX7_laysLeast 87 = .ok (.aload_n 0, 1) := by decide +kernel
theorem dX7_laysLeast_88 : decode cX7_laysLeast 88 = .ok (.getfield 48, 3) := by decide +kernel
theorem dX7_laysLeast_91 : decode cX7_laysLeast 91 = .ok (.iconst 2, 1) := by decide +kernel
theorem dX7_laysLeast_92 : decode cX7_laysLeast 92 = .ok (.iload_n 1, 1) := by decide +kernel
theorem dX7_laysLeast_93 : decode cX7_laysLeast 93 = .ok (.imul, 1) := by decide +kernel
theorem dX7_laysLeast_94 : decode cX7_laysLeast 94 = .ok (.iconst 1, 1) := by decide +kernel
theorem dX7_laysLeast_95 : decode cX7_laysLeast 95 = .ok (.iadd, 1) := by decide +kernel
theorem dX7_laysLeast_96 : decode cX7_laysLeast 96 = .ok (.aload_n 0, 1) := by decide +kernel
theorem dX7_laysLeast_97 : decode cX7_laysLeast 97 = .ok (.getfield 48, 3) := by decide +kernel
theorem dX7_laysLeast_100 : decode cX7_laysLeast 100 = .ok (.iload_n 1, 1) := by decide +kernel
theorem dX7_laysLeast_101 : decode cX7_laysLeast 101 = .ok (.iaload, 1) := by decide +kernel
theorem dX7_laysLeast_102 : decode cX7_laysLeast 102 = .ok (.iastore, 1) := by decide +kernel
theorem dX7_laysLeast_103 : decode cX7_laysLeast 103 = .ok (.iinc 1 1, 3) := by decide +kernel
theorem dX7_laysLeast_106 : decode cX7_laysLeast 106 = .ok (.goto (-97), 3) := by decide +kernel
theorem dX7_laysLeast_109 : decode cX7_laysLeast 109 = .ok (.return_, 1) := by decide +kernel
set_option maxRecDepth 20000 in
theorem ggX7_laysHops_X7_hopBy : GoodIn wsX7_laysHops wsX7_hopBy := goodIn_r _ [6, 7, 8, 5, 9] (by decide +kernel) (by decide +kernel)
set_option maxRecDepth 20000 in
theorem gX7_laysHops_X7_hopBy : GoodIn wsX7_laysHops (va_wsS RX7 72 yX7_hopBy wsX7_hopBy) := goodIn_app (goodIn_of _ (by decide +kernel)) ggX7_laysHops_X7_hopBy
theorem dX7_laysHops_0 : decode cX7_laysHops 0 = .ok (.iconst 0, 1) := by decide +kernel
theorem dX7_laysHops_1 : decode cX7_laysHops 1 = .ok (.istore_n 1, 1) := by decide +kernel
theorem dX7_laysHops_2 : decode cX7_laysHops 2 = .ok (.iload_n 1, 1) := by decide +kernel
theorem dX7_laysHops_3 : decode cX7_laysHops 3 = .ok (.sipush 256, 3) := by decide +kernel
theorem dX7_laysHops_6 : decode cX7_laysHops 6 = .ok (.if_icmp .ge 47, 3) := by decide +kernel
theorem dX7_laysHops_9 : decode cX7_laysHops 9 = .ok (.aload_n 0, 1) := by decide +kernel
theorem dX7_laysHops_10 : decode cX7_laysHops 10 = .ok (.getfield 45, 3) := by decide +kernel
theorem dX7_laysHops_13 : decode cX7_laysHops 13 = .ok (.iload_n 1, 1) := by decide +kernel
theorem dX7_laysHops_14 : decode cX7_laysHops 14 = .ok (.aload_n 0, 1) := by decide +kernel
theorem dX7_laysHops_15 : decode cX7_laysHops 15 = .ok (.getfield 7, 3) := by decide +kernel
theorem dX7_laysHops_18 : decode cX7_laysHops 18 = .ok (.iconst 0, 1) := by decide +kernel
theorem dX7_laysHops_19 : decode cX7_laysHops 19 = .ok (.iload_n 1, 1) := by decide +kernel
theorem dX7_laysHops_20 : decode cX7_laysHops 20 = .ok (.iconst 0, 1) := by decide +kernel
theorem dX7_laysHops_21 : decode cX7_laysHops 21 = .ok (.invokestatic 72, 3) := by decide +kernel
theorem dX7_laysHops_24 : decode cX7_laysHops 24 = .ok (.iastore, 1) := by decide +kernel
theorem dX7_laysHops_25 : decode cX7_laysHops 25 = .ok (.aload_n 0, 1) := by decide +kernel
theorem dX7_laysHops_26 : decode cX7_laysHops 26 = .ok (.getfield 45, 3) := by decide +kernel
theorem dX7_laysHops_29 : decode cX7_laysHops 29 = .ok (.sipush 256, 3) := by decide +kernel
theorem dX7_laysHops_32 : decode cX7_laysHops 32 = .ok (.iload_n 1, 1) := by decide +kernel
theorem dX7_laysHops_33 : decode cX7_laysHops 33 = .ok (.iadd, 1) := by decide +kernel
theorem dX7_laysHops_34 : decode cX7_laysHops 34 = .ok (.aload_n 0, 1) := by decide +kernel
theorem dX7_laysHops_35 : decode cX7_laysHops 35 = .ok (.getfield 7, 3) := by decide +kernel
theorem dX7_laysHops_38 : decode cX7_laysHops 38 = .ok (.sipush 512, 3) := by decide +kernel
theorem dX7_laysHops_41 : decode cX7_laysHops 41 = .ok (.iload_n 1, 1) := by decide +kernel
theorem dX7_laysHops_42 : decode cX7_laysHops 42 = .ok (.iconst 0, 1) := by decide +kernel
theorem dX7_laysHops_43 : decode cX7_laysHops 43 = .ok (.invokestatic 72, 3) := by decide +kernel
theorem dX7_laysHops_46 : decode cX7_laysHops 46 = .ok (.iastore, 1) := by decide +kernel
theorem dX7_laysHops_47 : decode cX7_laysHops 47 = .ok (.iinc 1 1, 3) := by decide +kernel
theorem dX7_laysHops_50 : decode cX7_laysHops 50 = .ok (.goto (-48), 3) := by decide +kernel
theorem dX7_laysHops_53 : decode cX7_laysHops 53 = .ok (.return_, 1) := by decide +kernel
set_option maxRecDepth 20000 in
theorem ggX7_lays_X7_laysHops : GoodIn wsX7_lays wsX7_laysHops := goodIn_r _ [5, 6, 7, 8, 9, 4, 10, 11, 12, 13, 36, 37, 38, 39, 40, 41, 42, 43, 44, 45, 46, 47, 48, 49, 50, 51, 52, 53] (by decide +kernel) (by decide +kernel)
set_option maxRecDepth 20000 in
theorem gX7_lays_X7_laysHops : GoodIn wsX7_lays (wsV RX7 75 RX7 yX7_laysHops wsX7_laysHops) := goodIn_app (goodIn_of _ (by decide +kernel)) ggX7_lays_X7_laysHops
set_option maxRecDepth 20000 in
theorem ggX7_lays_X7_laysCosts : GoodIn wsX7_lays wsX7_laysCosts := goodIn_r _ [17, 18, 6, 19, 20, 4, 21, 36, 37, 38, 39, 40, 41, 42, 43, 44, 45, 46, 47, 48, 49, 50, 51, 52, 53] (by decide +kernel) (by decide +kernel)
set_option maxRecDepth 20000 in
theorem gX7_lays_X7_laysCosts : GoodIn wsX7_lays (wsV RX7 78 RX7 yX7_laysCosts wsX7_laysCosts) := goodIn_app (goodIn_of _ (by decide +kernel)) ggX7_lays_X7_laysCosts
set_option maxRecDepth 20000 in
theorem ggX7_lays_X7_laysLeast : GoodIn wsX7_lays wsX7_laysLeast := goodIn_r _ [25, 26, 27, 28, 29, 30, 4, 31, 18, 32, 33, 34, 35, 19, 20, 21, 36, 37, 38, 39, 40, 41, 42, 43, 44, 45, 46, 47, 48, 49, 50, 51, 52, 53] (by decide +kernel) (by decide +kernel)
set_option maxRecDepth 20000 in
theorem gX7_lays_X7_laysLeast : GoodIn wsX7_lays (wsV RX7 81 RX7 yX7_laysLeast wsX7_laysLeast) := goodIn_app (goodIn_of _ (by decide +kernel)) ggX7_lays_X7_laysLeast
theorem dX7_lays_0 : decode cX7_lays 0 = .ok (.aload_n 0, 1) := by decide +kernel
theorem dX7_lays_1 : decode cX7_lays 1 = .ok (.invokevirtual 75, 3) := by decide +kernel
theorem dX7_lays_4 : decode cX7_lays 4 = .ok (.aload_n 0, 1) := by decide +kernel
theorem dX7_lays_5 : decode cX7_lays 5 = .ok (.invokevirtual 78, 3) := by decide +kernel
theorem dX7_lays_8 : decode cX7_lays 8 = .ok (.aload_n 0, 1) := by decide +kernel
theorem dX7_lays_9 : decode cX7_lays 9 = .ok (.invokevirtual 81, 3) := by decide +kernel
theorem dX7_lays_12 : decode cX7_lays 12 = .ok (.return_, 1) := by decide +kernel
theorem dX7_has_0 : decode cX7_has 0 = .ok (.sipush 256, 3) := by decide +kernel
theorem dX7_has_3 : decode cX7_has 3 = .ok (.iload_n 0, 1) := by decide +kernel
theorem dX7_has_4 : decode cX7_has 4 = .ok (.iadd, 1) := by decide +kernel
theorem dX7_has_5 : decode cX7_has 5 = .ok (.istore_n 2, 1) := by decide +kernel
theorem dX7_has_6 : decode cX7_has 6 = .ok (.iload_n 2, 1) := by decide +kernel
theorem dX7_has_7 : decode cX7_has 7 = .ok (.iload_n 1, 1) := by decide +kernel
theorem dX7_has_8 : decode cX7_has 8 = .ok (.if_icmp .le 10, 3) := by decide +kernel
theorem dX7_has_11 : decode cX7_has 11 = .ok (.iload_n 2, 1) := by decide +kernel
theorem dX7_has_12 : decode cX7_has 12 = .ok (.iconst 2, 1) := by decide +kernel
theorem dX7_has_13 : decode cX7_has 13 = .ok (.idiv, 1) := by decide +kernel
theorem dX7_has_14 : decode cX7_has 14 = .ok (.istore_n 2, 1) := by decide +kernel
theorem dX7_has_15 : decode cX7_has 15 = .ok (.goto (-9), 3) := by decide +kernel
theorem dX7_has_18 : decode cX7_has 18 = .ok (.iload_n 2, 1) := by decide +kernel
theorem dX7_has_19 : decode cX7_has 19 = .ok (.iload_n 1, 1) := by decide +kernel
theorem dX7_has_20 : decode cX7_has 20 = .ok (.if_icmp .ne 7, 3) := by decide +kernel
theorem dX7_has_23 : decode cX7_has 23 = .ok (.iconst 1, 1) := by decide +kernel
theorem dX7_has_24 : decode cX7_has 24 = .ok (.goto 4, 3) := by decide +kernel
theorem dX7_has_27 : decode cX7_has 27 = .ok (.iconst 0, 1) := by decide +kernel
theorem dX7_has_28 : decode cX7_has 28 = .ok (.ireturn, 1) := by decide +kernel
set_option maxRecDepth 20000 in
theorem ggX7_hopsIn_X7_has : GoodIn wsX7_hopsIn wsX7_has := goodIn_r _ [5] (by decide +kernel) (by decide +kernel)
set_option maxRecDepth 20000 in
theorem gX7_hopsIn_X7_has : GoodIn wsX7_hopsIn (va_wsS RX7 84 yX7_has wsX7_has) := goodIn_app (goodIn_of _ (by decide +kernel)) ggX7_hopsIn_X7_has
theorem dX7_hopsIn_0 : decode cX7_hopsIn 0 = .ok (.iconst 0, 1) := by decide +kernel
theorem dX7_hopsIn_1 : decode cX7_hopsIn 1 = .ok (.istore_n 2, 1) := by decide +kernel
theorem dX7_hopsIn_2 : decode cX7_hopsIn 2 = .ok (.iconst 0, 1) := by decide +kernel
theorem dX7_hopsIn_3 : decode cX7_hopsIn 3 = .ok (.istore_n 3, 1) := by decide +kernel
theorem dX7_hopsIn_4 : decode cX7_hopsIn 4 = .ok (.iload_n 3, 1) := by decide +kernel
theorem dX7_hopsIn_5 : decode cX7_hopsIn 5 = .ok (.sipush 256, 3) := by decide +kernel
theorem dX7_hopsIn_8 : decode cX7_hopsIn 8 = .ok (.if_icmp .ge 32, 3) := by decide +kernel
theorem dX7_hopsIn_11 : decode cX7_hopsIn 11 = .ok (.iload_n 2, 1) := by decide +kernel
theorem dX7_hopsIn_12 : decode cX7_hopsIn 12 = .ok (.iload_n 3, 1) := by decide +kernel
theorem dX7_hopsIn_13 : decode cX7_hopsIn 13 = .ok (.iload_n 1, 1) := by decide +kernel
theorem dX7_hopsIn_14 : decode cX7_hopsIn 14 = .ok (.invokestatic 84, 3) := by decide +kernel
theorem dX7_hopsIn_17 : decode cX7_hopsIn 17 = .ok (.ifCond .eq 14, 3) := by decide +kernel
theorem dX7_hopsIn_20 : decode cX7_hopsIn 20 = .ok (.iconst 1, 1) := by decide +kernel
theorem dX7_hopsIn_21 : decode cX7_hopsIn 21 = .ok (.aload_n 0, 1) := by decide +kernel
theorem dX7_hopsIn_22 : decode cX7_hopsIn 22 = .ok (.getfield 45, 3) := by decide +kernel
theorem dX7_hopsIn_25 : decode cX7_hopsIn 25 = .ok (.iload_n 3, 1) := by decide +kernel
theorem dX7_hopsIn_26 : decode cX7_hopsIn 26 = .ok (.iaload, 1) := by decide +kernel
theorem dX7_hopsIn_27 : decode cX7_hopsIn 27 = .ok (.ishl, 1) := by decide +kernel
theorem dX7_hopsIn_28 : decode cX7_hopsIn 28 = .ok (.goto 4, 3) := by decide +kernel
theorem dX7_hopsIn_31 : decode cX7_hopsIn 31 = .ok (.iconst 0, 1) := by decide +kernel
theorem dX7_hopsIn_32 : decode cX7_hopsIn 32 = .ok (.ior, 1) := by decide +kernel
theorem dX7_hopsIn_33 : decode cX7_hopsIn 33 = .ok (.istore_n 2, 1) := by decide +kernel
theorem dX7_hopsIn_34 : decode cX7_hopsIn 34 = .ok (.iinc 3 1, 3) := by decide +kernel
theorem dX7_hopsIn_37 : decode cX7_hopsIn 37 = .ok (.goto (-33), 3) := by decide +kernel
theorem dX7_hopsIn_40 : decode cX7_hopsIn 40 = .ok (.iload_n 2, 1) := by decide +kernel
theorem dX7_hopsIn_41 : decode cX7_hopsIn 41 = .ok (.ireturn, 1) := by decide +kernel
set_option maxRecDepth 20000 in
theorem ggX7_isRedundant_X7_hopBy : GoodIn wsX7_isRedundant wsX7_hopBy := goodIn_r _ [6, 7, 8, 5, 9] (by decide +kernel) (by decide +kernel)
set_option maxRecDepth 20000 in
theorem gX7_isRedundant_X7_hopBy : GoodIn wsX7_isRedundant (va_wsS RX7 72 yX7_hopBy wsX7_hopBy) := goodIn_app (goodIn_of _ (by decide +kernel)) ggX7_isRedundant_X7_hopBy
theorem dX7_isRedundant_0 : decode cX7_isRedundant 0 = .ok (.iconst 1, 1) := by decide +kernel
theorem dX7_isRedundant_1 : decode cX7_isRedundant 1 = .ok (.istore_n 2, 1) := by decide +kernel
theorem dX7_isRedundant_2 : decode cX7_isRedundant 2 = .ok (.iconst 0, 1) := by decide +kernel
theorem dX7_isRedundant_3 : decode cX7_isRedundant 3 = .ok (.istore_n 3, 1) := by decide +kernel
theorem dX7_isRedundant_4 : decode cX7_isRedundant 4 = .ok (.iload_n 3, 1) := by decide +kernel
theorem dX7_isRedundant_5 : decode cX7_isRedundant 5 = .ok (.sipush 256, 3) := by decide +kernel
theorem dX7_isRedundant_8 : decode cX7_isRedundant 8 = .ok (.if_icmp .ge 38, 3) := by decide +kernel
theorem dX7_isRedundant_11 : decode cX7_isRedundant 11 = .ok (.iload_n 2, 1) := by decide +kernel
theorem dX7_isRedundant_12 : decode cX7_isRedundant 12 = .ok (.ifCond .eq 34, 3) := by decide +kernel
theorem dX7_isRedundant_15 : decode cX7_isRedundant 15 = .ok (.aload_n 0, 1) := by decide +kernel
theorem dX7_isRedundant_16 : decode cX7_isRedundant 16 = .ok (.getfield 7, 3) := by decide +kernel
theorem dX7_isRedundant_19 : decode cX7_isRedundant 19 = .ok (.iconst 0, 1) := by decide +kernel
theorem dX7_isRedundant_20 : decode cX7_isRedundant 20 = .ok (.iload_n 3, 1) := by decide +kernel
theorem dX7_isRedundant_21 : decode cX7_isRedundant 21 = .ok (.iload_n 1, 1) := by decide +kernel
theorem dX7_isRedundant_22 : decode cX7_isRedundant 22 = .ok (.invokestatic 72, 3) := by decide +kernel
theorem dX7_isRedundant_25 : decode cX7_isRedundant 25 = .ok (.aload_n 0, 1) := by decide +kernel
theorem dX7_isRedundant_26 : decode cX7_isRedundant 26 = .ok (.getfield 45, 3) := by decide +kernel
theorem dX7_isRedundant_29 : decode cX7_isRedundant 29 = .ok (.iload_n 3, 1) := by decide +kernel
theorem dX7_isRedundant_30 : decode cX7_isRedundant 30 = .ok (.iaload, 1) := by decide +kernel
theorem dX7_isRedundant_31 : decode cX7_isRedundant 31 = .ok (.if_icmp .ne 7, 3) := by decide +kernel
theorem dX7_isRedundant_34 : decode cX7_isRedundant 34 = .ok (.iconst 1, 1) := by decide +kernel
theorem dX7_isRedundant_35 : decode cX7_isRedundant 35 = .ok (.goto 4, 3) := by decide +kernel
theorem dX7_isRedundant_38 : decode cX7_isRedundant 38 = .ok (.iconst 0, 1) := by decide +kernel
theorem dX7_isRedundant_39 : decode cX7_isRedundant 39 = .ok (.istore_n 2, 1) := by decide +kernel
theorem dX7_isRedundant_40 : decode cX7_isRedundant 40 = .ok (.iinc 3 1, 3) := by decide +kernel
theorem dX7_isRedundant_43 : decode cX7_isRedundant 43 = .ok (.goto (-39), 3) := by decide +kernel
theorem dX7_isRedundant_46 : decode cX7_isRedundant 46 = .ok (.iload_n 2, 1) := by decide +kernel
theorem dX7_isRedundant_47 : decode cX7_isRedundant 47 = .ok (.ireturn, 1) := by decide +kernel
theorem dX7_toldOf_0 : decode cX7_toldOf 0 = .ok (.iload_n 0, 1) := by decide +kernel
theorem dX7_toldOf_1 : decode cX7_toldOf 1 = .ok (.bipush 8, 2) := by decide +kernel
theorem dX7_toldOf_3 : decode cX7_toldOf 3 = .ok (.if_icmp .ne 8, 3) := by decide +kernel
theorem dX7_toldOf_6 : decode cX7_toldOf 6 = .ok (.bipush (-4), 2) := by decide +kernel
theorem dX7_toldOf_8 : decode cX7_toldOf 8 = .ok (.goto 4, 3) := by decide +kernel
theorem dX7_toldOf_11 : decode cX7_toldOf 11 = .ok (.iload_n 0, 1) := by decide +kernel
theorem dX7_toldOf_12 : decode cX7_toldOf 12 = .ok (.ireturn, 1) := by decide +kernel
set_option maxRecDepth 20000 in
theorem ggX7_look_X7_in : GoodIn wsX7_look wsX7_in := goodIn_r _ [9] (by decide +kernel) (by decide +kernel)
set_option maxRecDepth 20000 in
theorem gX7_look_X7_in : GoodIn wsX7_look (va_wsS RX7 90 yX7_in wsX7_in) := goodIn_app (goodIn_of _ (by decide +kernel)) ggX7_look_X7_in
set_option maxRecDepth 20000 in
theorem ggX7_look_X7_lays : GoodIn wsX7_look wsX7_lays := goodIn_r _ [13, 14, 15, 16, 8, 17, 3, 4, 18, 19, 20, 21, 22, 23, 24, 25, 26, 27, 28, 29, 30, 31, 32, 33, 34, 35, 36, 5, 37, 38, 39, 40, 41, 42, 43, 44, 45, 46, 47, 48, 49, 50, 51, 52, 53, 54, 55, 56, 57, 58, 59, 60, 61, 62] (by decide +kernel) (by decide +kernel)
set_option maxRecDepth 20000 in
theorem gX7_look_X7_lays : GoodIn wsX7_look (wsV RX7 96 RX7 yX7_lays wsX7_lays) := goodIn_app (goodIn_of _ (by decide +kernel)) ggX7_look_X7_lays
set_option maxRecDepth 20000 in
theorem ggX7_look_X7_decides : GoodIn wsX7_look wsX7_decides := goodIn_r _ [23] (by decide +kernel) (by decide +kernel)
set_option maxRecDepth 20000 in
theorem gX7_look_X7_decides : GoodIn wsX7_look (va_wsS RX7 57 yX7_decides wsX7_decides) := goodIn_app (goodIn_of _ (by decide +kernel)) ggX7_look_X7_decides
set_option maxRecDepth 20000 in
theorem ggX7_look_X7_hopBy : GoodIn wsX7_look wsX7_hopBy := goodIn_r _ [20, 21, 22, 8, 23] (by decide +kernel) (by decide +kernel)
set_option maxRecDepth 20000 in
theorem gX7_look_X7_hopBy : GoodIn wsX7_look (va_wsS RX7 72 yX7_hopBy wsX7_hopBy) := goodIn_app (goodIn_of _ (by decide +kernel)) ggX7_look_X7_hopBy
theorem dX7_look_0 : decode cX7_look 0 = .ok (.iload_n 1, 1) := by decide +kernel
theorem dX7_look_1 : decode cX7_look 1 = .ok (.i2l, 1) := by decide +kernel
theorem dX7_look_2 : decode cX7_look 2 = .ok (.lconst 0, 1) := by decide +kernel
theorem dX7_look_3 : decode cX7_look 3 = .ok (.ldc2_w 88, 3) := by decide +kernel
theorem dX7_look_6 : decode cX7_look 6 = .ok (.invokestatic 90, 3) := by decide +kernel
theorem dX7_look_9 : decode cX7_look 9 = .ok (.ifCond .eq 15, 3) := by decide +kernel
theorem dX7_look_12 : decode cX7_look 12 = .ok (.iload_n 2, 1) := by decide +kernel
theorem dX7_look_13 : decode cX7_look 13 = .ok (.i2l, 1) := by decide +kernel
theorem dX7_look_14 : decode cX7_look 14 = .ok (.lconst 0, 1) := by decide +kernel
theorem dX7_look_15 : decode cX7_look 15 = .ok (.ldc2_w 94, 3) := by decide +kernel
theorem dX7_look_18 : decode cX7_look 18 = .ok (.invokestatic 90, 3) := by decide +kernel
theorem dX7_look_21 : decode cX7_look 21 = .ok (.ifCond .ne 5, 3) := by decide +kernel
theorem dX7_look_24 : decode cX7_look 24 = .ok (.iconst (-1), 1) := by decide +kernel
theorem dX7_look_25 : decode cX7_look 25 = .ok (.ireturn, 1) := by decide +kernel
theorem dX7_look_26 : decode cX7_look 26 = .ok (.aload_n 0, 1) := by decide +kernel
theorem dX7_look_27 : decode cX7_look 27 = .ok (.invokevirtual 96, 3) := by decide +kernel
theorem dX7_look_30 : decode cX7_look 30 = .ok (.iload_n 2, 1) := by decide +kernel
theorem dX7_look_31 : decode cX7_look 31 = .ok (.tableswitch 54 0 2 #[25, 32, 43], 25) := by decide +kernel
theorem dX7_look_56 : decode cX7_look 56 = .ok (.aload_n 0, 1) := by decide +kernel
theorem dX7_look_57 : decode cX7_look 57 = .ok (.getfield 45, 3) := by decide +kernel
theorem dX7_look_60 : decode cX7_look 60 = .ok (.iload_n 1, 1) := by decide +kernel
theorem dX7_look_61 : decode cX7_look 61 = .ok (.iaload, 1) := by decide +kernel
theorem dX7_look_62 : decode cX7_look 62 = .ok (.ireturn, 1) := by decide +kernel
theorem dX7_look_63 : decode cX7_look 63 = .ok (.aload_n 0, 1) := by decide +kernel
theorem dX7_look_64 : decode cX7_look 64 = .ok (.getfield 7, 3) := by decide +kernel
theorem dX7_look_67 : decode cX7_look 67 = .ok (.iconst 0, 1) := by decide +kernel
theorem dX7_look_68 : decode cX7_look 68 = .ok (.iload_n 1, 1) := by decide +kernel
theorem dX7_look_69 : decode cX7_look 69 = .ok (.iconst 0, 1) := by decide +kernel
theorem dX7_look_70 : decode cX7_look 70 = .ok (.invokestatic 57, 3) := by decide +kernel
theorem dX7_look_73 : decode cX7_look 73 = .ok (.ireturn, 1) := by decide +kernel
theorem dX7_look_74 : decode cX7_look 74 = .ok (.aload_n 0, 1) := by decide +kernel
theorem dX7_look_75 : decode cX7_look 75 = .ok (.getfield 45, 3) := by decide +kernel
theorem dX7_look_78 : decode cX7_look 78 = .ok (.sipush 256, 3) := by decide +kernel
theorem dX7_look_81 : decode cX7_look 81 = .ok (.iload_n 1, 1) := by decide +kernel
theorem dX7_look_82 : decode cX7_look 82 = .ok (.iadd, 1) := by decide +kernel
theorem dX7_look_83 : decode cX7_look 83 = .ok (.iaload, 1) := by decide +kernel
theorem dX7_look_84 : decode cX7_look 84 = .ok (.ireturn, 1) := by decide +kernel
theorem dX7_look_85 : decode cX7_look 85 = .ok (.aload_n 0, 1) := by decide +kernel
theorem dX7_look_86 : decode cX7_look 86 = .ok (.getfield 39, 3) := by decide +kernel
theorem dX7_look_89 : decode cX7_look 89 = .ok (.iconst 0, 1) := by decide +kernel
theorem dX7_look_90 : decode cX7_look 90 = .ok (.iload_n 1, 1) := by decide +kernel
theorem dX7_look_91 : decode cX7_look 91 = .ok (.iconst 0, 1) := by decide +kernel
theorem dX7_look_92 : decode cX7_look 92 = .ok (.invokestatic 72, 3) := by decide +kernel
theorem dX7_look_95 : decode cX7_look 95 = .ok (.ireturn, 1) := by decide +kernel
set_option maxRecDepth 20000 in
theorem ggX7_isPrefix_X7_in : GoodIn wsX7_isPrefix wsX7_in := goodIn_r _ [5] (by decide +kernel) (by decide +kernel)
set_option maxRecDepth 20000 in
theorem gX7_isPrefix_X7_in : GoodIn wsX7_isPrefix (va_wsS RX7 90 yX7_in wsX7_in) := goodIn_app (goodIn_of _ (by decide +kernel)) ggX7_isPrefix_X7_in
theorem dX7_isPrefix_0 : decode cX7_isPrefix 0 = .ok (.iload_n 0, 1) := by decide +kernel
theorem dX7_isPrefix_1 : decode cX7_isPrefix 1 = .ok (.i2l, 1) := by decide +kernel
theorem dX7_isPrefix_2 : decode cX7_isPrefix 2 = .ok (.lconst 1, 1) := by decide +kernel
theorem dX7_isPrefix_3 : decode cX7_isPrefix 3 = .ok (.ldc2_w 99, 3) := by decide +kernel
theorem dX7_isPrefix_6 : decode cX7_isPrefix 6 = .ok (.invokestatic 90, 3) := by decide +kernel
theorem dX7_isPrefix_9 : decode cX7_isPrefix 9 = .ok (.ireturn, 1) := by decide +kernel
set_option maxRecDepth 20000 in
theorem ggX7_prefix_X7_isPrefix : GoodIn wsX7_prefix wsX7_isPrefix := goodIn_r _ [7, 8, 9, 10, 6, 11] (by decide +kernel) (by decide +kernel)
set_option maxRecDepth 20000 in
theorem gX7_prefix_X7_isPrefix : GoodIn wsX7_prefix (va_wsS RX7 101 yX7_isPrefix wsX7_isPrefix) := goodIn_app (goodIn_of _ (by decide +kernel)) ggX7_prefix_X7_isPrefix
set_option maxRecDepth 20000 in
theorem ggX7_prefix_X7_in : GoodIn wsX7_prefix wsX7_in := goodIn_r _ [11] (by decide +kernel) (by decide +kernel)
set_option maxRecDepth 20000 in
theorem gX7_prefix_X7_in : GoodIn wsX7_prefix (va_wsS RX7 90 yX7_in wsX7_in) := goodIn_app (goodIn_of _ (by decide +kernel)) ggX7_prefix_X7_in
set_option maxRecDepth 20000 in
theorem ggX7_prefix_X7_lays : GoodIn wsX7_prefix wsX7_lays := goodIn_r _ [15, 16, 17, 18, 6, 19, 20, 2, 21, 22, 23, 24, 25, 26, 27, 28, 29, 30, 31, 32, 33, 34, 35, 36, 37, 38, 39, 3, 40, 41, 42, 43, 44, 45, 46, 47, 62, 63, 64, 65, 66, 67, 68, 69, 70, 71, 72, 73, 74, 75, 76, 77, 78, 79] (by decide +kernel) (by decide +kernel)
set_option maxRecDepth 20000 in
theorem gX7_prefix_X7_lays : GoodIn wsX7_prefix (wsV RX7 96 RX7 yX7_lays wsX7_lays) := goodIn_app (goodIn_of _ (by decide +kernel)) ggX7_prefix_X7_lays
set_option maxRecDepth 20000 in
theorem ggX7_prefix_X7_toldOf : GoodIn wsX7_prefix wsX7_toldOf := goodIn_r _ [50] (by decide +kernel) (by decide +kernel)
set_option maxRecDepth 20000 in
theorem gX7_prefix_X7_toldOf : GoodIn wsX7_prefix (va_wsS RX7 107 yX7_toldOf wsX7_toldOf) := goodIn_app (goodIn_of _ (by decide +kernel)) ggX7_prefix_X7_toldOf
set_option maxRecDepth 20000 in
theorem ggX7_prefix_X7_setOf : GoodIn wsX7_prefix wsX7_setOf := goodIn_r _ [43, 31, 44, 45, 46, 6, 47, 32, 33, 34, 62, 63, 64, 65, 66, 67, 68, 69, 70, 71, 72, 73, 74, 75, 76, 77, 78, 79] (by decide +kernel) (by decide +kernel)
set_option maxRecDepth 20000 in
theorem gX7_prefix_X7_setOf : GoodIn wsX7_prefix (wsV RX7 69 RX7 yX7_setOf wsX7_setOf) := goodIn_app (goodIn_of _ (by decide +kernel)) ggX7_prefix_X7_setOf
set_option maxRecDepth 20000 in
theorem ggX7_prefix_X7_ease : GoodIn wsX7_prefix wsX7_ease := goodIn_r _ [47, 31, 32, 33, 6, 34, 62, 63, 64, 65, 66, 67, 68, 69, 70, 71, 72, 73, 74, 75, 76, 77, 78, 79] (by decide +kernel) (by decide +kernel)
set_option maxRecDepth 20000 in
theorem gX7_prefix_X7_ease : GoodIn wsX7_prefix (wsV RX7 65 RX7 yX7_ease wsX7_ease) := goodIn_app (goodIn_of _ (by decide +kernel)) ggX7_prefix_X7_ease
set_option maxRecDepth 20000 in
theorem ggX7_prefix_X7_hopsIn : GoodIn wsX7_prefix wsX7_hopsIn := goodIn_r _ [54, 20, 55, 56, 6, 57, 62, 63, 64, 65, 66, 67, 68, 69, 70, 71, 72, 73, 74, 75, 76, 77, 78, 79] (by decide +kernel) (by decide +kernel)
set_option maxRecDepth 20000 in
theorem gX7_prefix_X7_hopsIn : GoodIn wsX7_prefix (wsV RX7 110 RX7 yX7_hopsIn wsX7_hopsIn) := goodIn_app (goodIn_of _ (by decide +kernel)) ggX7_prefix_X7_hopsIn
set_option maxRecDepth 20000 in
theorem ggX7_prefix_X7_isRedundant : GoodIn wsX7_prefix wsX7_isRedundant := goodIn_r _ [61, 2, 20, 21, 22, 6, 23, 24, 25, 26, 62, 63, 64, 65, 66, 67, 68, 69, 70, 71, 72, 73, 74, 75, 76, 77, 78, 79] (by decide +kernel) (by decide +kernel)
set_option maxRecDepth 20000 in
theorem gX7_prefix_X7_isRedundant : GoodIn wsX7_prefix (wsV RX7 113 RX7 yX7_isRedundant wsX7_isRedundant) := goodIn_app (goodIn_of _ (by decide +kernel)) ggX7_prefix_X7_isRedundant
theorem dX7_prefix_0 : decode cX7_prefix 0 = .ok (.iload_n 1, 1) := by decide +kernel
theorem dX7_prefix_1 : decode cX7_prefix 1 = .ok (.invokestatic 101, 3) := by decide +kernel
theorem dX7_prefix_4 : decode cX7_prefix 4 = .ok (.ifCond .eq 15, 3) := by decide +kernel
theorem dX7_prefix_7 : decode cX7_prefix 7 = .ok (.iload_n 2, 1) := by decide +kernel
theorem dX7_prefix_8 : decode cX7_prefix 8 = .ok (.i2l, 1) := by decide +kernel
theorem dX7_prefix_9 : decode cX7_prefix 9 = .ok (.lconst 0, 1) := by decide +kernel
theorem dX7_prefix_10 : decode cX7_prefix 10 = .ok (.ldc2_w 105, 3) := by decide +kernel
theorem dX7_prefix_13 : decode cX7_prefix 13 = .ok (.invokestatic 90, 3) := by decide +kernel
theorem dX7_prefix_16 : decode cX7_prefix 16 = .ok (.ifCond .ne 5, 3) := by decide +kernel
theorem dX7_prefix_19 : decode cX7_prefix 19 = .ok (.iconst (-1), 1) := by decide +kernel
theorem dX7_prefix_20 : decode cX7_prefix 20 = .ok (.ireturn, 1) := by decide +kernel
theorem dX7_prefix_21 : decode cX7_prefix 21 = .ok (.aload_n 0, 1) := by decide +kernel
theorem dX7_prefix_22 : decode cX7_prefix 22 = .ok (.invokevirtual 96, 3) := by decide +kernel
theorem dX7_prefix_25 : decode cX7_prefix 25 = .ok (.iload_n 2, 1) := by decide +kernel
theorem dX7_prefix_26 : decode cX7_prefix 26 = .ok (.tableswitch 82 0 5 #[38, 38, 54, 64, 70, 76], 38) := by decide +kernel
theorem dX7_prefix_64 : decode cX7_prefix 64 = .ok (.aload_n 0, 1) := by decide +kernel
theorem dX7_prefix_65 : decode cX7_prefix 65 = .ok (.getfield 7, 3) := by decide +kernel
theorem dX7_prefix_68 : decode cX7_prefix 68 = .ok (.sipush 512, 3) := by decide +kernel
theorem dX7_prefix_71 : decode cX7_prefix 71 = .ok (.iload_n 2, 1) := by decide +kernel
theorem dX7_prefix_72 : decode cX7_prefix 72 = .ok (.imul, 1) := by decide +kernel
theorem dX7_prefix_73 : decode cX7_prefix 73 = .ok (.iload_n 1, 1) := by decide +kernel
theorem dX7_prefix_74 : decode cX7_prefix 74 = .ok (.iadd, 1) := by decide +kernel
theorem dX7_prefix_75 : decode cX7_prefix 75 = .ok (.iaload, 1) := by decide +kernel
theorem dX7_prefix_76 : decode cX7_prefix 76 = .ok (.invokestatic 107, 3) := by decide +kernel
theorem dX7_prefix_79 : decode cX7_prefix 79 = .ok (.ireturn, 1) := by decide +kernel
theorem dX7_prefix_80 : decode cX7_prefix 80 = .ok (.aload_n 0, 1) := by decide +kernel
theorem dX7_prefix_81 : decode cX7_prefix 81 = .ok (.getfield 39, 3) := by decide +kernel
theorem dX7_prefix_84 : decode cX7_prefix 84 = .ok (.iload_n 1, 1) := by decide +kernel
theorem dX7_prefix_85 : decode cX7_prefix 85 = .ok (.iaload, 1) := by decide +kernel
theorem dX7_prefix_86 : decode cX7_prefix 86 = .ok (.invokestatic 107, 3) := by decide +kernel
theorem dX7_prefix_89 : decode cX7_prefix 89 = .ok (.ireturn, 1) := by decide +kernel
theorem dX7_prefix_90 : decode cX7_prefix 90 = .ok (.aload_n 0, 1) := by decide +kernel
theorem dX7_prefix_91 : decode cX7_prefix 91 = .ok (.iload_n 1, 1) := by decide +kernel
theorem dX7_prefix_92 : decode cX7_prefix 92 = .ok (.invokevirtual 69, 3) := by decide +kernel
theorem dX7_prefix_95 : decode cX7_prefix 95 = .ok (.ireturn, 1) := by decide +kernel
theorem dX7_prefix_96 : decode cX7_prefix 96 = .ok (.aload_n 0, 1) := by decide +kernel
theorem dX7_prefix_97 : decode cX7_prefix 97 = .ok (.iload_n 1, 1) := by decide +kernel
theorem dX7_prefix_98 : decode cX7_prefix 98 = .ok (.invokevirtual 65, 3) := by decide +kernel
theorem dX7_prefix_101 : decode cX7_prefix 101 = .ok (.ireturn, 1) := by decide +kernel
theorem dX7_prefix_102 : decode cX7_prefix 102 = .ok (.aload_n 0, 1) := by decide +kernel
theorem dX7_prefix_103 : decode cX7_prefix 103 = .ok (.iload_n 1, 1) := by decide +kernel
theorem dX7_prefix_104 : decode cX7_prefix 104 = .ok (.invokevirtual 110, 3) := by decide +kernel
theorem dX7_prefix_107 : decode cX7_prefix 107 = .ok (.ireturn, 1) := by decide +kernel
theorem dX7_prefix_108 : decode cX7_prefix 108 = .ok (.aload_n 0, 1) := by decide +kernel
theorem dX7_prefix_109 : decode cX7_prefix 109 = .ok (.getfield 7, 3) := by decide +kernel
theorem dX7_prefix_112 : decode cX7_prefix 112 = .ok (.iconst 0, 1) := by decide +kernel
theorem dX7_prefix_113 : decode cX7_prefix 113 = .ok (.iload_n 1, 1) := by decide +kernel
theorem dX7_prefix_114 : decode cX7_prefix 114 = .ok (.iadd, 1) := by decide +kernel
theorem dX7_prefix_115 : decode cX7_prefix 115 = .ok (.iaload, 1) := by decide +kernel
theorem dX7_prefix_116 : decode cX7_prefix 116 = .ok (.bipush 8, 2) := by decide +kernel
theorem dX7_prefix_118 : decode cX7_prefix 118 = .ok (.if_icmp .ne 8, 3) := by decide +kernel
theorem dX7_prefix_121 : decode cX7_prefix 121 = .ok (.bipush (-4), 2) := by decide +kernel
theorem dX7_prefix_123 : decode cX7_prefix 123 = .ok (.goto 16, 3) := by decide +kernel
theorem dX7_prefix_126 : decode cX7_prefix 126 = .ok (.aload_n 0, 1) := by decide +kernel
theorem dX7_prefix_127 : decode cX7_prefix 127 = .ok (.iload_n 1, 1) := by decide +kernel
theorem dX7_prefix_128 : decode cX7_prefix 128 = .ok (.invokevirtual 113, 3) := by decide +kernel
theorem dX7_prefix_131 : decode cX7_prefix 131 = .ok (.ifCond .eq 7, 3) := by decide +kernel
theorem dX7_prefix_134 : decode cX7_prefix 134 = .ok (.iconst 1, 1) := by decide +kernel
theorem dX7_prefix_135 : decode cX7_prefix 135 = .ok (.goto 4, 3) := by decide +kernel
theorem dX7_prefix_138 : decode cX7_prefix 138 = .ok (.iconst 0, 1) := by decide +kernel
theorem dX7_prefix_139 : decode cX7_prefix 139 = .ok (.ireturn, 1) := by decide +kernel
set_option maxRecDepth 20000 in
theorem ggX7_cost_X7_isPrefix : GoodIn wsX7_cost wsX7_isPrefix := goodIn_r _ [6, 7, 8, 9, 5, 10] (by decide +kernel) (by decide +kernel)
set_option maxRecDepth 20000 in
theorem gX7_cost_X7_isPrefix : GoodIn wsX7_cost (va_wsS RX7 101 yX7_isPrefix wsX7_isPrefix) := goodIn_app (goodIn_of _ (by decide +kernel)) ggX7_cost_X7_isPrefix
set_option maxRecDepth 20000 in
theorem ggX7_cost_X7_in : GoodIn wsX7_cost wsX7_in := goodIn_r _ [10] (by decide +kernel) (by decide +kernel)
set_option maxRecDepth 20000 in
theorem gX7_cost_X7_in : GoodIn wsX7_cost (va_wsS RX7 90 yX7_in wsX7_in) := goodIn_app (goodIn_of _ (by decide +kernel)) ggX7_cost_X7_in
set_option maxRecDepth 20000 in
theorem ggX7_cost_X7_lays : GoodIn wsX7_cost wsX7_lays := goodIn_r _ [14, 15, 16, 17, 5, 18, 19, 20, 21, 22, 23, 24, 25, 26, 27, 28, 29, 30, 2, 31, 32, 33, 34, 35, 36, 37, 38, 39, 40, 41, 42, 43, 44, 45, 46, 47, 48, 49, 50, 51, 52, 53, 54, 55, 56, 57, 58, 59, 60, 61, 62, 63, 64, 65] (by decide +kernel) (by decide +kernel)
set_option maxRecDepth 20000 in
theorem gX7_cost_X7_lays : GoodIn wsX7_cost (wsV RX7 96 RX7 yX7_lays wsX7_lays) := goodIn_app (goodIn_of _ (by decide +kernel)) ggX7_cost_X7_lays
theorem dX7_cost_0 : decode cX7_cost 0 = .ok (.iload_n 1, 1) := by decide +kernel
theorem dX7_cost_1 : decode cX7_cost 1 = .ok (.invokestatic 101, 3) := by decide +kernel
theorem dX7_cost_4 : decode cX7_cost 4 = .ok (.ifCond .eq 15, 3) := by decide +kernel
theorem dX7_cost_7 : decode cX7_cost 7 = .ok (.iload_n 2, 1) := by decide +kernel
theorem dX7_cost_8 : decode cX7_cost 8 = .ok (.i2l, 1) := by decide +kernel
theorem dX7_cost_9 : decode cX7_cost 9 = .ok (.lconst 0, 1) := by decide +kernel
theorem dX7_cost_10 : decode cX7_cost 10 = .ok (.ldc2_w 116, 3) := by decide +kernel
theorem dX7_cost_13 : decode cX7_cost 13 = .ok (.invokestatic 90, 3) := by decide +kernel
theorem dX7_cost_16 : decode cX7_cost 16 = .ok (.ifCond .ne 5, 3) := by decide +kernel
theorem dX7_cost_19 : decode cX7_cost 19 = .ok (.iconst (-1), 1) := by decide +kernel
theorem dX7_cost_20 : decode cX7_cost 20 = .ok (.ireturn, 1) := by decide +kernel
theorem dX7_cost_21 : decode cX7_cost 21 = .ok (.aload_n 0, 1) := by decide +kernel
theorem dX7_cost_22 : decode cX7_cost 22 = .ok (.invokevirtual 96, 3) := by decide +kernel
theorem dX7_cost_25 : decode cX7_cost 25 = .ok (.aload_n 0, 1) := by decide +kernel
theorem dX7_cost_26 : decode cX7_cost 26 = .ok (.getfield 42, 3) := by decide +kernel
theorem dX7_cost_29 : decode cX7_cost 29 = .ok (.bipush 8, 2) := by decide +kernel
theorem dX7_cost_31 : decode cX7_cost 31 = .ok (.iload_n 1, 1) := by decide +kernel
theorem dX7_cost_32 : decode cX7_cost 32 = .ok (.imul, 1) := by decide +kernel
theorem dX7_cost_33 : decode cX7_cost 33 = .ok (.iload_n 2, 1) := by decide +kernel
theorem dX7_cost_34 : decode cX7_cost 34 = .ok (.iadd, 1) := by decide +kernel
theorem dX7_cost_35 : decode cX7_cost 35 = .ok (.iaload, 1) := by decide +kernel
theorem dX7_cost_36 : decode cX7_cost 36 = .ok (.ireturn, 1) := by decide +kernel
theorem dX7_many_0 : decode cX7_many 0 = .ok (.iconst 0, 1) := by decide +kernel
theorem dX7_many_1 : decode cX7_many 1 = .ok (.istore_n 2, 1) := by decide +kernel
theorem dX7_many_2 : decode cX7_many 2 = .ok (.iconst 1, 1) := by decide +kernel
theorem dX7_many_3 : decode cX7_many 3 = .ok (.istore_n 3, 1) := by decide +kernel
theorem dX7_many_4 : decode cX7_many 4 = .ok (.iload_n 3, 1) := by decide +kernel
theorem dX7_many_5 : decode cX7_many 5 = .ok (.sipush 512, 3) := by decide +kernel
theorem dX7_many_8 : decode cX7_many 8 = .ok (.if_icmp .ge 27, 3) := by decide +kernel
theorem dX7_many_11 : decode cX7_many 11 = .ok (.iload_n 2, 1) := by decide +kernel
theorem dX7_many_12 : decode cX7_many 12 = .ok (.aload_n 0, 1) := by decide +kernel
theorem dX7_many_13 : decode cX7_many 13 = .ok (.iload_n 1, 1) := by decide +kernel
theorem dX7_many_14 : decode cX7_many 14 = .ok (.iload_n 3, 1) := by decide +kernel
theorem dX7_many_15 : decode cX7_many 15 = .ok (.iadd, 1) := by decide +kernel
theorem dX7_many_16 : decode cX7_many 16 = .ok (.iaload, 1) := by decide +kernel
theorem dX7_many_17 : decode cX7_many 17 = .ok (.bipush 8, 2) := by decide +kernel
theorem dX7_many_19 : decode cX7_many 19 = .ok (.if_icmp .ne 7, 3) := by decide +kernel
theorem dX7_many_22 : decode cX7_many 22 = .ok (.iconst 0, 1) := by decide +kernel
theorem dX7_many_23 : decode cX7_many 23 = .ok (.goto 4, 3) := by decide +kernel
theorem dX7_many_26 : decode cX7_many 26 = .ok (.iconst 1, 1) := by decide +kernel
theorem dX7_many_27 : decode cX7_many 27 = .ok (.iadd, 1) := by decide +kernel
theorem dX7_many_28 : decode cX7_many 28 = .ok (.istore_n 2, 1) := by decide +kernel
theorem dX7_many_29 : decode cX7_many 29 = .ok (.iinc 3 1, 3) := by decide +kernel
theorem dX7_many_32 : decode cX7_many 32 = .ok (.goto (-28), 3) := by decide +kernel
theorem dX7_many_35 : decode cX7_many 35 = .ok (.iload_n 2, 1) := by decide +kernel
theorem dX7_many_36 : decode cX7_many 36 = .ok (.ireturn, 1) := by decide +kernel
theorem dX7_leastAt_0 : decode cX7_leastAt 0 = .ok (.iload_n 1, 1) := by decide +kernel
theorem dX7_leastAt_1 : decode cX7_leastAt 1 = .ok (.istore_n 2, 1) := by decide +kernel
theorem dX7_leastAt_2 : decode cX7_leastAt 2 = .ok (.iconst 1, 1) := by decide +kernel
theorem dX7_leastAt_3 : decode cX7_leastAt 3 = .ok (.istore_n 3, 1) := by decide +kernel
theorem dX7_leastAt_4 : decode cX7_leastAt 4 = .ok (.iload_n 3, 1) := by decide +kernel
theorem dX7_leastAt_5 : decode cX7_leastAt 5 = .ok (.sipush 512, 3) := by decide +kernel
theorem dX7_leastAt_8 : decode cX7_leastAt 8 = .ok (.if_icmp .ge 29, 3) := by decide +kernel
theorem dX7_leastAt_11 : decode cX7_leastAt 11 = .ok (.aload_n 0, 1) := by decide +kernel
theorem dX7_leastAt_12 : decode cX7_leastAt 12 = .ok (.getfield 39, 3) := by decide +kernel
theorem dX7_leastAt_15 : decode cX7_leastAt 15 = .ok (.iload_n 3, 1) := by decide +kernel
theorem dX7_leastAt_16 : decode cX7_leastAt 16 = .ok (.iaload, 1) := by decide +kernel
theorem dX7_leastAt_17 : decode cX7_leastAt 17 = .ok (.bipush 8, 2) := by decide +kernel
theorem dX7_leastAt_19 : decode cX7_leastAt 19 = .ok (.if_icmp .eq 12, 3) := by decide +kernel
theorem dX7_leastAt_22 : decode cX7_leastAt 22 = .ok (.iload_n 2, 1) := by decide +kernel
theorem dX7_leastAt_23 : decode cX7_leastAt 23 = .ok (.ifCond .ne 5, 3) := by decide +kernel
theorem dX7_leastAt_26 : decode cX7_leastAt 26 = .ok (.iload_n 3, 1) := by decide +kernel
theorem dX7_leastAt_27 : decode cX7_leastAt 27 = .ok (.ireturn, 1) := by decide +kernel
theorem dX7_leastAt_28 : decode cX7_leastAt 28 = .ok (.iinc 2 (-1), 3) := by decide +kernel
theorem dX7_leastAt_31 : decode cX7_leastAt 31 = .ok (.iinc 3 1, 3) := by decide +kernel
theorem dX7_leastAt_34 : decode cX7_leastAt 34 = .ok (.goto (-30), 3) := by decide +kernel
theorem dX7_leastAt_37 : decode cX7_leastAt 37 = .ok (.bipush (-4), 2) := by decide +kernel
theorem dX7_leastAt_39 : decode cX7_leastAt 39 = .ok (.ireturn, 1) := by decide +kernel
set_option maxRecDepth 20000 in
theorem ggX7_least_X7_in : GoodIn wsX7_least wsX7_in := goodIn_r _ [5] (by decide +kernel) (by decide +kernel)
set_option maxRecDepth 20000 in
theorem gX7_least_X7_in : GoodIn wsX7_least (va_wsS RX7 90 yX7_in wsX7_in) := goodIn_app (goodIn_of _ (by decide +kernel)) ggX7_least_X7_in
set_option maxRecDepth 20000 in
theorem ggX7_least_X7_lays : GoodIn wsX7_least wsX7_lays := goodIn_r _ [9, 10, 11, 12, 4, 13, 14, 15, 16, 17, 18, 19, 20, 21, 22, 23, 24, 25, 26, 27, 28, 29, 30, 31, 32, 33, 34, 1, 35, 36, 37, 38, 39, 40, 41, 42, 47, 48, 49, 50, 51, 52, 53, 54, 55, 56, 57, 58, 59, 60, 61, 62, 63, 64] (by decide +kernel) (by decide +kernel)
set_option maxRecDepth 20000 in
theorem gX7_least_X7_lays : GoodIn wsX7_least (wsV RX7 96 RX7 yX7_lays wsX7_lays) := goodIn_app (goodIn_of _ (by decide +kernel)) ggX7_least_X7_lays
set_option maxRecDepth 20000 in
theorem ggX7_least_X7_leastAt : GoodIn wsX7_least wsX7_leastAt := goodIn_r _ [46, 1, 47, 48, 49, 50, 51, 52, 53, 54, 55, 56, 57, 58, 59, 60, 61, 62, 63, 64] (by decide +kernel) (by decide +kernel)
set_option maxRecDepth 20000 in
theorem gX7_least_X7_leastAt : GoodIn wsX7_least (wsV RX7 118 RX7 yX7_leastAt wsX7_leastAt) := goodIn_app (goodIn_of _ (by decide +kernel)) ggX7_least_X7_leastAt
theorem dX7_least_0 : decode cX7_least 0 = .ok (.iload_n 1, 1) := by decide +kernel
theorem dX7_least_1 : decode cX7_least 1 = .ok (.ifCond .lt 13, 3) := by decide +kernel
theorem dX7_least_4 : decode cX7_least 4 = .ok (.iload_n 2, 1) := by decide +kernel
theorem dX7_least_5 : decode cX7_least 5 = .ok (.i2l, 1) := by decide +kernel
theorem dX7_least_6 : decode cX7_least 6 = .ok (.lconst 0, 1) := by decide +kernel
theorem dX7_least_7 : decode cX7_least 7 = .ok (.lconst 1, 1) := by decide +kernel
theorem dX7_least_8 : decode cX7_least 8 = .ok (.invokestatic 90, 3) := by decide +kernel
theorem dX7_least_11 : decode cX7_least 11 = .ok (.ifCond .ne 5, 3) := by decide +kernel
theorem dX7_least_14 : decode cX7_least 14 = .ok (.iconst (-1), 1) := by decide +kernel
theorem dX7_least_15 : decode cX7_least 15 = .ok (.ireturn, 1) := by decide +kernel
theorem dX7_least_16 : decode cX7_least 16 = .ok (.aload_n 0, 1) := by decide +kernel
theorem dX7_least_17 : decode cX7_least 17 = .ok (.invokevirtual 96, 3) := by decide +kernel
theorem dX7_least_20 : decode cX7_least 20 = .ok (.aload_n 0, 1) := by decide +kernel
theorem dX7_least_21 : decode cX7_least 21 = .ok (.iload_n 1, 1) := by decide +kernel
theorem dX7_least_22 : decode cX7_least 22 = .ok (.invokevirtual 118, 3) := by decide +kernel
theorem dX7_least_25 : decode cX7_least 25 = .ok (.istore_n 3, 1) := by decide +kernel
theorem dX7_least_26 : decode cX7_least 26 = .ok (.iload_n 3, 1) := by decide +kernel
theorem dX7_least_27 : decode cX7_least 27 = .ok (.bipush (-4), 2) := by decide +kernel
theorem dX7_least_29 : decode cX7_least 29 = .ok (.if_icmp .eq 7, 3) := by decide +kernel
theorem dX7_least_32 : decode cX7_least 32 = .ok (.iload_n 2, 1) := by decide +kernel
theorem dX7_least_33 : decode cX7_least 33 = .ok (.ifCond .ne 7, 3) := by decide +kernel
theorem dX7_least_36 : decode cX7_least 36 = .ok (.iload_n 3, 1) := by decide +kernel
theorem dX7_least_37 : decode cX7_least 37 = .ok (.goto 9, 3) := by decide +kernel
theorem dX7_least_40 : decode cX7_least 40 = .ok (.aload_n 0, 1) := by decide +kernel
theorem dX7_least_41 : decode cX7_least 41 = .ok (.getfield 39, 3) := by decide +kernel
theorem dX7_least_44 : decode cX7_least 44 = .ok (.iload_n 3, 1) := by decide +kernel
theorem dX7_least_45 : decode cX7_least 45 = .ok (.iaload, 1) := by decide +kernel
theorem dX7_least_46 : decode cX7_least 46 = .ok (.ireturn, 1) := by decide +kernel
theorem dX7_changeAt_0 : decode cX7_changeAt 0 = .ok (.iload_n 1, 1) := by decide +kernel
theorem dX7_changeAt_1 : decode cX7_changeAt 1 = .ok (.istore_n 2, 1) := by decide +kernel
theorem dX7_changeAt_2 : decode cX7_changeAt 2 = .ok (.iconst 1, 1) := by decide +kernel
theorem dX7_changeAt_3 : decode cX7_changeAt 3 = .ok (.istore_n 3, 1) := by decide +kernel
theorem dX7_changeAt_4 : decode cX7_changeAt 4 = .ok (.iload_n 3, 1) := by decide +kernel
theorem dX7_changeAt_5 : decode cX7_changeAt 5 = .ok (.sipush 512, 3) := by decide +kernel
theorem dX7_changeAt_8 : decode cX7_changeAt 8 = .ok (.if_icmp .ge 37, 3) := by decide +kernel
theorem dX7_changeAt_11 : decode cX7_changeAt 11 = .ok (.aload_n 0, 1) := by decide +kernel
theorem dX7_changeAt_12 : decode cX7_changeAt 12 = .ok (.getfield 39, 3) := by decide +kernel
theorem dX7_changeAt_15 : decode cX7_changeAt 15 = .ok (.iload_n 3, 1) := by decide +kernel
theorem dX7_changeAt_16 : decode cX7_changeAt 16 = .ok (.iaload, 1) := by decide +kernel
theorem dX7_changeAt_17 : decode cX7_changeAt 17 = .ok (.aload_n 0, 1) := by decide +kernel
theorem dX7_changeAt_18 : decode cX7_changeAt 18 = .ok (.getfield 7, 3) := by decide +kernel
theorem dX7_changeAt_21 : decode cX7_changeAt 21 = .ok (.sipush 512, 3) := by decide +kernel
theorem dX7_changeAt_24 : decode cX7_changeAt 24 = .ok (.iload_n 3, 1) := by decide +kernel
theorem dX7_changeAt_25 : decode cX7_changeAt 25 = .ok (.iadd, 1) := by decide +kernel
theorem dX7_changeAt_26 : decode cX7_changeAt 26 = .ok (.iaload, 1) := by decide +kernel
theorem dX7_changeAt_27 : decode cX7_changeAt 27 = .ok (.if_icmp .eq 12, 3) := by decide +kernel
theorem dX7_changeAt_30 : decode cX7_changeAt 30 = .ok (.iload_n 2, 1) := by decide +kernel
theorem dX7_changeAt_31 : decode cX7_changeAt 31 = .ok (.ifCond .ne 5, 3) := by decide +kernel
theorem dX7_changeAt_34 : decode cX7_changeAt 34 = .ok (.iload_n 3, 1) := by decide +kernel
theorem dX7_changeAt_35 : decode cX7_changeAt 35 = .ok (.ireturn, 1) := by decide +kernel
theorem dX7_changeAt_36 : decode cX7_changeAt 36 = .ok (.iinc 2 (-1), 3) := by decide +kernel
theorem dX7_changeAt_39 : decode cX7_changeAt 39 = .ok (.iinc 3 1, 3) := by decide +kernel
theorem dX7_changeAt_42 : decode cX7_changeAt 42 = .ok (.goto (-38), 3) := by decide +kernel
theorem dX7_changeAt_45 : decode cX7_changeAt 45 = .ok (.bipush (-4), 2) := by decide +kernel
theorem dX7_changeAt_47 : decode cX7_changeAt 47 = .ok (.ireturn, 1) := by decide +kernel
theorem dX7_changes_0 : decode cX7_changes 0 = .ok (.iconst 0, 1) := by decide +kernel
theorem dX7_changes_1 : decode cX7_changes 1 = .ok (.istore_n 1, 1) := by decide +kernel
theorem dX7_changes_2 : decode cX7_changes 2 = .ok (.iconst 1, 1) := by decide +kernel
theorem dX7_changes_3 : decode cX7_changes 3 = .ok (.istore_n 2, 1) := by decide +kernel
theorem dX7_changes_4 : decode cX7_changes 4 = .ok (.iload_n 2, 1) := by decide +kernel
theorem dX7_changes_5 : decode cX7_changes 5 = .ok (.sipush 512, 3) := by decide +kernel
theorem dX7_changes_8 : decode cX7_changes 8 = .ok (.if_icmp .ge 36, 3) := by decide +kernel
theorem dX7_changes_11 : decode cX7_changes 11 = .ok (.iload_n 1, 1) := by decide +kernel
theorem dX7_changes_12 : decode cX7_changes 12 = .ok (.aload_n 0, 1) := by decide +kernel
theorem dX7_changes_13 : decode cX7_changes 13 = .ok (.getfield 39, 3) := by decide +kernel
theorem dX7_changes_16 : decode cX7_changes 16 = .ok (.iload_n 2, 1) := by decide +kernel
theorem dX7_changes_17 : decode cX7_changes 17 = .ok (.iaload, 1) := by decide +kernel
theorem dX7_changes_18 : decode cX7_changes 18 = .ok (.aload_n 0, 1) := by decide +kernel
theorem dX7_changes_19 : decode cX7_changes 19 = .ok (.getfield 7, 3) := by decide +kernel
theorem dX7_changes_22 : decode cX7_changes 22 = .ok (.sipush 512, 3) := by decide +kernel
theorem dX7_changes_25 : decode cX7_changes 25 = .ok (.iload_n 2, 1) := by decide +kernel
theorem dX7_changes_26 : decode cX7_changes 26 = .ok (.iadd, 1) := by decide +kernel
theorem dX7_changes_27 : decode cX7_changes 27 = .ok (.iaload, 1) := by decide +kernel
theorem dX7_changes_28 : decode cX7_changes 28 = .ok (.if_icmp .eq 7, 3) := by decide +kernel
theorem dX7_changes_31 : decode cX7_changes 31 = .ok (.iconst 1, 1) := by decide +kernel
theorem dX7_changes_32 : decode cX7_changes 32 = .ok (.goto 4, 3) := by decide +kernel
theorem dX7_changes_35 : decode cX7_changes 35 = .ok (.iconst 0, 1) := by decide +kernel
theorem dX7_changes_36 : decode cX7_changes 36 = .ok (.iadd, 1) := by decide +kernel
theorem dX7_changes_37 : decode cX7_changes 37 = .ok (.istore_n 1, 1) := by decide +kernel
theorem dX7_changes_38 : decode cX7_changes 38 = .ok (.iinc 2 1, 3) := by decide +kernel
theorem dX7_changes_41 : decode cX7_changes 41 = .ok (.goto (-37), 3) := by decide +kernel
theorem dX7_changes_44 : decode cX7_changes 44 = .ok (.iload_n 1, 1) := by decide +kernel
theorem dX7_changes_45 : decode cX7_changes 45 = .ok (.ireturn, 1) := by decide +kernel
set_option maxRecDepth 20000 in
theorem ggX7_change_X7_in : GoodIn wsX7_change wsX7_in := goodIn_r _ [7] (by decide +kernel) (by decide +kernel)
set_option maxRecDepth 20000 in
theorem gX7_change_X7_in : GoodIn wsX7_change (va_wsS RX7 90 yX7_in wsX7_in) := goodIn_app (goodIn_of _ (by decide +kernel)) ggX7_change_X7_in
set_option maxRecDepth 20000 in
theorem ggX7_change_X7_lays : GoodIn wsX7_change wsX7_lays := goodIn_r _ [11, 12, 13, 14, 6, 15, 16, 2, 17, 18, 19, 20, 21, 22, 23, 24, 25, 26, 27, 28, 29, 30, 31, 32, 33, 34, 35, 3, 36, 37, 38, 39, 40, 41, 42, 43, 51, 52, 53, 54, 55, 56, 57, 58, 59, 60, 61, 62, 63, 64, 65, 66, 67, 68] (by decide +kernel) (by decide +kernel)
set_option maxRecDepth 20000 in
theorem gX7_change_X7_lays : GoodIn wsX7_change (wsV RX7 96 RX7 yX7_lays wsX7_lays) := goodIn_app (goodIn_of _ (by decide +kernel)) ggX7_change_X7_lays
set_option maxRecDepth 20000 in
theorem ggX7_change_X7_changeAt : GoodIn wsX7_change wsX7_changeAt := goodIn_r _ [47, 3, 2, 51, 52, 53, 54, 55, 56, 57, 58, 59, 60, 61, 62, 63, 64, 65, 66, 67, 68] (by decide +kernel) (by decide +kernel)
set_option maxRecDepth 20000 in
theorem gX7_change_X7_changeAt : GoodIn wsX7_change (wsV RX7 121 RX7 yX7_changeAt wsX7_changeAt) := goodIn_app (goodIn_of _ (by decide +kernel)) ggX7_change_X7_changeAt
set_option maxRecDepth 20000 in
theorem ggX7_change_X7_toldOf : GoodIn wsX7_change wsX7_toldOf := goodIn_r _ [50] (by decide +kernel) (by decide +kernel)
set_option maxRecDepth 20000 in
theorem gX7_change_X7_toldOf : GoodIn wsX7_change (va_wsS RX7 107 yX7_toldOf wsX7_toldOf) := goodIn_app (goodIn_of _ (by decide +kernel)) ggX7_change_X7_toldOf
theorem dX7_change_0 : decode cX7_change 0 = .ok (.iload_n 1, 1) := by decide +kernel
theorem dX7_change_1 : decode cX7_change 1 = .ok (.ifCond .lt 15, 3) := by decide +kernel
theorem dX7_change_4 : decode cX7_change 4 = .ok (.iload_n 2, 1) := by decide +kernel
theorem dX7_change_5 : decode cX7_change 5 = .ok (.i2l, 1) := by decide +kernel
theorem dX7_change_6 : decode cX7_change 6 = .ok (.lconst 0, 1) := by decide +kernel
theorem dX7_change_7 : decode cX7_change 7 = .ok (.ldc2_w 94, 3) := by decide +kernel
theorem dX7_change_10 : decode cX7_change 10 = .ok (.invokestatic 90, 3) := by decide +kernel
theorem dX7_change_13 : decode cX7_change 13 = .ok (.ifCond .ne 5, 3) := by decide +kernel
theorem dX7_change_16 : decode cX7_change 16 = .ok (.iconst (-1), 1) := by decide +kernel
theorem dX7_change_17 : decode cX7_change 17 = .ok (.ireturn, 1) := by decide +kernel
theorem dX7_change_18 : decode cX7_change 18 = .ok (.aload_n 0, 1) := by decide +kernel
theorem dX7_change_19 : decode cX7_change 19 = .ok (.invokevirtual 96, 3) := by decide +kernel
theorem dX7_change_22 : decode cX7_change 22 = .ok (.aload_n 0, 1) := by decide +kernel
theorem dX7_change_23 : decode cX7_change 23 = .ok (.iload_n 1, 1) := by decide +kernel
theorem dX7_change_24 : decode cX7_change 24 = .ok (.invokevirtual 121, 3) := by decide +kernel
theorem dX7_change_27 : decode cX7_change 27 = .ok (.istore_n 3, 1) := by decide +kernel
theorem dX7_change_28 : decode cX7_change 28 = .ok (.iload_n 3, 1) := by decide +kernel
theorem dX7_change_29 : decode cX7_change 29 = .ok (.bipush (-4), 2) := by decide +kernel
theorem dX7_change_31 : decode cX7_change 31 = .ok (.if_icmp .ne 6, 3) := by decide +kernel
theorem dX7_change_34 : decode cX7_change 34 = .ok (.bipush (-4), 2) := by decide +kernel
theorem dX7_change_36 : decode cX7_change 36 = .ok (.ireturn, 1) := by decide +kernel
theorem dX7_change_37 : decode cX7_change 37 = .ok (.aload_n 0, 1) := by decide +kernel
theorem dX7_change_38 : decode cX7_change 38 = .ok (.getfield 7, 3) := by decide +kernel
theorem dX7_change_41 : decode cX7_change 41 = .ok (.sipush 512, 3) := by decide +kernel
theorem dX7_change_44 : decode cX7_change 44 = .ok (.iload_n 3, 1) := by decide +kernel
theorem dX7_change_45 : decode cX7_change 45 = .ok (.iadd, 1) := by decide +kernel
theorem dX7_change_46 : decode cX7_change 46 = .ok (.iaload, 1) := by decide +kernel
theorem dX7_change_47 : decode cX7_change 47 = .ok (.istore 4, 2) := by decide +kernel
theorem dX7_change_49 : decode cX7_change 49 = .ok (.iload_n 2, 1) := by decide +kernel
theorem dX7_change_50 : decode cX7_change 50 = .ok (.tableswitch 44 0 2 #[26, 28, 34], 26) := by decide +kernel
theorem dX7_change_76 : decode cX7_change 76 = .ok (.iload_n 3, 1) := by decide +kernel
theorem dX7_change_77 : decode cX7_change 77 = .ok (.ireturn, 1) := by decide +kernel
theorem dX7_change_78 : decode cX7_change 78 = .ok (.iload 4, 2) := by decide +kernel
theorem dX7_change_80 : decode cX7_change 80 = .ok (.invokestatic 107, 3) := by decide +kernel
theorem dX7_change_83 : decode cX7_change 83 = .ok (.ireturn, 1) := by decide +kernel
theorem dX7_change_84 : decode cX7_change 84 = .ok (.aload_n 0, 1) := by decide +kernel
theorem dX7_change_85 : decode cX7_change 85 = .ok (.getfield 39, 3) := by decide +kernel
theorem dX7_change_88 : decode cX7_change 88 = .ok (.iload_n 3, 1) := by decide +kernel
theorem dX7_change_89 : decode cX7_change 89 = .ok (.iaload, 1) := by decide +kernel
theorem dX7_change_90 : decode cX7_change 90 = .ok (.invokestatic 107, 3) := by decide +kernel
theorem dX7_change_93 : decode cX7_change 93 = .ok (.ireturn, 1) := by decide +kernel
theorem dX7_change_94 : decode cX7_change 94 = .ok (.aload_n 0, 1) := by decide +kernel
theorem dX7_change_95 : decode cX7_change 95 = .ok (.getfield 39, 3) := by decide +kernel
theorem dX7_change_98 : decode cX7_change 98 = .ok (.iload_n 3, 1) := by decide +kernel
theorem dX7_change_99 : decode cX7_change 99 = .ok (.iaload, 1) := by decide +kernel
theorem dX7_change_100 : decode cX7_change 100 = .ok (.bipush 8, 2) := by decide +kernel
theorem dX7_change_102 : decode cX7_change 102 = .ok (.if_icmp .ne 7, 3) := by decide +kernel
theorem dX7_change_105 : decode cX7_change 105 = .ok (.iconst 0, 1) := by decide +kernel
theorem dX7_change_106 : decode cX7_change 106 = .ok (.goto 15, 3) := by decide +kernel
theorem dX7_change_109 : decode cX7_change 109 = .ok (.iload 4, 2) := by decide +kernel
theorem dX7_change_111 : decode cX7_change 111 = .ok (.bipush 8, 2) := by decide +kernel
theorem dX7_change_113 : decode cX7_change 113 = .ok (.if_icmp .ne 7, 3) := by decide +kernel
theorem dX7_change_116 : decode cX7_change 116 = .ok (.iconst 1, 1) := by decide +kernel
theorem dX7_change_117 : decode cX7_change 117 = .ok (.goto 4, 3) := by decide +kernel
theorem dX7_change_120 : decode cX7_change 120 = .ok (.iconst 2, 1) := by decide +kernel
theorem dX7_change_121 : decode cX7_change 121 = .ok (.ireturn, 1) := by decide +kernel
set_option maxRecDepth 20000 in
theorem ggX7_isOne_X7_has : GoodIn wsX7_isOne wsX7_has := goodIn_r _ [5] (by decide +kernel) (by decide +kernel)
set_option maxRecDepth 20000 in
theorem gX7_isOne_X7_has : GoodIn wsX7_isOne (va_wsS RX7 84 yX7_has wsX7_has) := goodIn_app (goodIn_of _ (by decide +kernel)) ggX7_isOne_X7_has
theorem dX7_isOne_0 : decode cX7_isOne 0 = .ok (.bipush (-4), 2) := by decide +kernel
theorem dX7_isOne_2 : decode cX7_isOne 2 = .ok (.istore_n 2, 1) := by decide +kernel
theorem dX7_isOne_3 : decode cX7_isOne 3 = .ok (.iconst 1, 1) := by decide +kernel
theorem dX7_isOne_4 : decode cX7_isOne 4 = .ok (.istore_n 3, 1) := by decide +kernel
theorem dX7_isOne_5 : decode cX7_isOne 5 = .ok (.iconst 0, 1) := by decide +kernel
theorem dX7_isOne_6 : decode cX7_isOne 6 = .ok (.istore 4, 2) := by decide +kernel
theorem dX7_isOne_8 : decode cX7_isOne 8 = .ok (.iload 4, 2) := by decide +kernel
theorem dX7_isOne_10 : decode cX7_isOne 10 = .ok (.sipush 256, 3) := by decide +kernel
theorem dX7_isOne_13 : decode cX7_isOne 13 = .ok (.if_icmp .ge 67, 3) := by decide +kernel
theorem dX7_isOne_16 : decode cX7_isOne 16 = .ok (.iload 4, 2) := by decide +kernel
theorem dX7_isOne_18 : decode cX7_isOne 18 = .ok (.iload_n 1, 1) := by decide +kernel
theorem dX7_isOne_19 : decode cX7_isOne 19 = .ok (.invokestatic 84, 3) := by decide +kernel
theorem dX7_isOne_22 : decode cX7_isOne 22 = .ok (.ifCond .eq 52, 3) := by decide +kernel
theorem dX7_isOne_25 : decode cX7_isOne 25 = .ok (.bipush 8, 2) := by decide +kernel
theorem dX7_isOne_27 : decode cX7_isOne 27 = .ok (.aload_n 0, 1) := by decide +kernel
theorem dX7_isOne_28 : decode cX7_isOne 28 = .ok (.getfield 45, 3) := by decide +kernel
theorem dX7_isOne_31 : decode cX7_isOne 31 = .ok (.iload 4, 2) := by decide +kernel
theorem dX7_isOne_33 : decode cX7_isOne 33 = .ok (.iaload, 1) := by decide +kernel
theorem dX7_isOne_34 : decode cX7_isOne 34 = .ok (.imul, 1) := by decide +kernel
theorem dX7_isOne_35 : decode cX7_isOne 35 = .ok (.aload_n 0, 1) := by decide +kernel
theorem dX7_isOne_36 : decode cX7_isOne 36 = .ok (.getfield 45, 3) := by decide +kernel
theorem dX7_isOne_39 : decode cX7_isOne 39 = .ok (.sipush 256, 3) := by decide +kernel
theorem dX7_isOne_42 : decode cX7_isOne 42 = .ok (.iload 4, 2) := by decide +kernel
theorem dX7_isOne_44 : decode cX7_isOne 44 = .ok (.iadd, 1) := by decide +kernel
theorem dX7_isOne_45 : decode cX7_isOne 45 = .ok (.iaload, 1) := by decide +kernel
theorem dX7_isOne_46 : decode cX7_isOne 46 = .ok (.iadd, 1) := by decide +kernel
theorem dX7_isOne_47 : decode cX7_isOne 47 = .ok (.istore 5, 2) := by decide +kernel
theorem dX7_isOne_49 : decode cX7_isOne 49 = .ok (.iload_n 3, 1) := by decide +kernel
theorem dX7_isOne_50 : decode cX7_isOne 50 = .ok (.ifCond .eq 19, 3) := by decide +kernel
theorem dX7_isOne_53 : decode cX7_isOne 53 = .ok (.iload_n 2, 1) := by decide +kernel
theorem dX7_isOne_54 : decode cX7_isOne 54 = .ok (.bipush (-4), 2) := by decide +kernel
theorem dX7_isOne_56 : decode cX7_isOne 56 = .ok (.if_icmp .eq 9, 3) := by decide +kernel
theorem dX7_isOne_59 : decode cX7_isOne 59 = .ok (.iload_n 2, 1) := by decide +kernel
theorem dX7_isOne_60 : decode cX7_isOne 60 = .ok (.iload 5, 2) := by decide +kernel
theorem dX7_isOne_62 : decode cX7_isOne 62 = .ok (.if_icmp .ne 7, 3) := by decide +kernel
theorem dX7_isOne_65 : decode cX7_isOne 65 = .ok (.iconst 1, 1) := by decide +kernel
theorem dX7_isOne_66 : decode cX7_isOne 66 = .ok (.goto 4, 3) := by decide +kernel
theorem dX7_isOne_69 : decode cX7_isOne 69 = .ok (.iconst 0, 1) := by decide +kernel
theorem dX7_isOne_70 : decode cX7_isOne 70 = .ok (.istore_n 3, 1) := by decide +kernel
theorem dX7_isOne_71 : decode cX7_isOne 71 = .ok (.iload 5, 2) := by decide +kernel
theorem dX7_isOne_73 : decode cX7_isOne 73 = .ok (.istore_n 2, 1) := by decide +kernel
theorem dX7_isOne_74 : decode cX7_isOne 74 = .ok (.iinc 4 1, 3) := by decide +kernel
theorem dX7_isOne_77 : decode cX7_isOne 77 = .ok (.goto (-69), 3) := by decide +kernel
theorem dX7_isOne_80 : decode cX7_isOne 80 = .ok (.iload_n 3, 1) := by decide +kernel
theorem dX7_isOne_81 : decode cX7_isOne 81 = .ok (.ireturn, 1) := by decide +kernel
set_option maxRecDepth 20000 in
theorem ggX7_proofOf_X7_isOne : GoodIn wsX7_proofOf wsX7_isOne := goodIn_r _ [5, 6, 7, 8, 4, 9, 10, 11, 12, 13, 14, 15, 16, 17, 18, 19, 20, 21, 22, 23, 24, 25, 26, 27] (by decide +kernel) (by decide +kernel)
set_option maxRecDepth 20000 in
theorem gX7_proofOf_X7_isOne : GoodIn wsX7_proofOf (wsV RX7 124 RX7 yX7_isOne wsX7_isOne) := goodIn_app (goodIn_of _ (by decide +kernel)) ggX7_proofOf_X7_isOne
theorem dX7_proofOf_0 : decode cX7_proofOf 0 = .ok (.bipush (-4), 2) := by decide +kernel
theorem dX7_proofOf_2 : decode cX7_proofOf 2 = .ok (.istore_n 2, 1) := by decide +kernel
theorem dX7_proofOf_3 : decode cX7_proofOf 3 = .ok (.sipush 256, 3) := by decide +kernel
theorem dX7_proofOf_6 : decode cX7_proofOf 6 = .ok (.iload_n 1, 1) := by decide +kernel
theorem dX7_proofOf_7 : decode cX7_proofOf 7 = .ok (.iadd, 1) := by decide +kernel
theorem dX7_proofOf_8 : decode cX7_proofOf 8 = .ok (.istore_n 3, 1) := by decide +kernel
theorem dX7_proofOf_9 : decode cX7_proofOf 9 = .ok (.iload_n 3, 1) := by decide +kernel
theorem dX7_proofOf_10 : decode cX7_proofOf 10 = .ok (.ifCond .le 24, 3) := by decide +kernel
theorem dX7_proofOf_13 : decode cX7_proofOf 13 = .ok (.aload_n 0, 1) := by decide +kernel
theorem dX7_proofOf_14 : decode cX7_proofOf 14 = .ok (.iload_n 3, 1) := by decide +kernel
theorem dX7_proofOf_15 : decode cX7_proofOf 15 = .ok (.invokevirtual 124, 3) := by decide +kernel
theorem dX7_proofOf_18 : decode cX7_proofOf 18 = .ok (.ifCond .eq 7, 3) := by decide +kernel
theorem dX7_proofOf_21 : decode cX7_proofOf 21 = .ok (.iload_n 3, 1) := by decide +kernel
theorem dX7_proofOf_22 : decode cX7_proofOf 22 = .ok (.goto 4, 3) := by decide +kernel
theorem dX7_proofOf_25 : decode cX7_proofOf 25 = .ok (.iload_n 2, 1) := by decide +kernel
theorem dX7_proofOf_26 : decode cX7_proofOf 26 = .ok (.istore_n 2, 1) := by decide +kernel
theorem dX7_proofOf_27 : decode cX7_proofOf 27 = .ok (.iload_n 3, 1) := by decide +kernel
theorem dX7_proofOf_28 : decode cX7_proofOf 28 = .ok (.iconst 2, 1) := by decide +kernel
theorem dX7_proofOf_29 : decode cX7_proofOf 29 = .ok (.idiv, 1) := by decide +kernel
theorem dX7_proofOf_30 : decode cX7_proofOf 30 = .ok (.istore_n 3, 1) := by decide +kernel
theorem dX7_proofOf_31 : decode cX7_proofOf 31 = .ok (.goto (-22), 3) := by decide +kernel
theorem dX7_proofOf_34 : decode cX7_proofOf 34 = .ok (.iload_n 2, 1) := by decide +kernel
theorem dX7_proofOf_35 : decode cX7_proofOf 35 = .ok (.ireturn, 1) := by decide +kernel
theorem dX7_wide_0 : decode cX7_wide 0 = .ok (.iconst 1, 1) := by decide +kernel
theorem dX7_wide_1 : decode cX7_wide 1 = .ok (.istore_n 1, 1) := by decide +kernel
theorem dX7_wide_2 : decode cX7_wide 2 = .ok (.iload_n 0, 1) := by decide +kernel
theorem dX7_wide_3 : decode cX7_wide 3 = .ok (.istore_n 2, 1) := by decide +kernel
theorem dX7_wide_4 : decode cX7_wide 4 = .ok (.iload_n 2, 1) := by decide +kernel
theorem dX7_wide_5 : decode cX7_wide 5 = .ok (.sipush 256, 3) := by decide +kernel
theorem dX7_wide_8 : decode cX7_wide 8 = .ok (.if_icmp .ge 14, 3) := by decide +kernel
theorem dX7_wide_11 : decode cX7_wide 11 = .ok (.iload_n 1, 1) := by decide +kernel
theorem dX7_wide_12 : decode cX7_wide 12 = .ok (.iconst 2, 1) := by decide +kernel
theorem dX7_wide_13 : decode cX7_wide 13 = .ok (.imul, 1) := by decide +kernel
theorem dX7_wide_14 : decode cX7_wide 14 = .ok (.istore_n 1, 1) := by decide +kernel
theorem dX7_wide_15 : decode cX7_wide 15 = .ok (.iload_n 2, 1) := by decide +kernel
theorem dX7_wide_16 : decode cX7_wide 16 = .ok (.iconst 2, 1) := by decide +kernel
theorem dX7_wide_17 : decode cX7_wide 17 = .ok (.imul, 1) := by decide +kernel
theorem dX7_wide_18 : decode cX7_wide 18 = .ok (.istore_n 2, 1) := by decide +kernel
theorem dX7_wide_19 : decode cX7_wide 19 = .ok (.goto (-15), 3) := by decide +kernel
theorem dX7_wide_22 : decode cX7_wide 22 = .ok (.iload_n 1, 1) := by decide +kernel
theorem dX7_wide_23 : decode cX7_wide 23 = .ok (.ireturn, 1) := by decide +kernel
set_option maxRecDepth 20000 in
theorem ggX7_proofAt_X7_proofOf : GoodIn wsX7_proofAt wsX7_proofOf := goodIn_r _ [5, 6, 7, 8, 4, 9, 10, 11, 12, 13, 17, 18, 19, 20, 21, 22, 23, 24, 25, 26, 27, 28, 29, 30, 31, 32, 33, 34] (by decide +kernel) (by decide +kernel)
set_option maxRecDepth 20000 in
theorem gX7_proofAt_X7_proofOf : GoodIn wsX7_proofAt (wsV RX7 127 RX7 yX7_proofOf wsX7_proofOf) := goodIn_app (goodIn_of _ (by decide +kernel)) ggX7_proofAt_X7_proofOf
set_option maxRecDepth 20000 in
theorem ggX7_proofAt_X7_wide : GoodIn wsX7_proofAt wsX7_wide := goodIn_r _ [16] (by decide +kernel) (by decide +kernel)
set_option maxRecDepth 20000 in
theorem gX7_proofAt_X7_wide : GoodIn wsX7_proofAt (va_wsS RX7 130 yX7_wide wsX7_wide) := goodIn_app (goodIn_of _ (by decide +kernel)) ggX7_proofAt_X7_wide
theorem dX7_proofAt_0 : decode cX7_proofAt 0 = .ok (.iconst 0, 1) := by decide +kernel
theorem dX7_proofAt_1 : decode cX7_proofAt 1 = .ok (.istore_n 2, 1) := by decide +kernel
theorem dX7_proofAt_2 : decode cX7_proofAt 2 = .ok (.iconst 0, 1) := by decide +kernel
theorem dX7_proofAt_3 : decode cX7_proofAt 3 = .ok (.istore_n 3, 1) := by decide +kernel
theorem dX7_proofAt_4 : decode cX7_proofAt 4 = .ok (.iload_n 3, 1) := by decide +kernel
theorem dX7_proofAt_5 : decode cX7_proofAt 5 = .ok (.sipush 256, 3) := by decide +kernel
theorem dX7_proofAt_8 : decode cX7_proofAt 8 = .ok (.if_icmp .ge 27, 3) := by decide +kernel
theorem dX7_proofAt_11 : decode cX7_proofAt 11 = .ok (.iload_n 2, 1) := by decide +kernel
theorem dX7_proofAt_12 : decode cX7_proofAt 12 = .ok (.iload_n 1, 1) := by decide +kernel
theorem dX7_proofAt_13 : decode cX7_proofAt 13 = .ok (.if_icmp .ne 5, 3) := by decide +kernel
theorem dX7_proofAt_16 : decode cX7_proofAt 16 = .ok (.iload_n 3, 1) := by decide +kernel
theorem dX7_proofAt_17 : decode cX7_proofAt 17 = .ok (.ireturn, 1) := by decide +kernel
theorem dX7_proofAt_18 : decode cX7_proofAt 18 = .ok (.iload_n 3, 1) := by decide +kernel
theorem dX7_proofAt_19 : decode cX7_proofAt 19 = .ok (.aload_n 0, 1) := by decide +kernel
theorem dX7_proofAt_20 : decode cX7_proofAt 20 = .ok (.iload_n 3, 1) := by decide +kernel
theorem dX7_proofAt_21 : decode cX7_proofAt 21 = .ok (.invokevirtual 127, 3) := by decide +kernel
theorem dX7_proofAt_24 : decode cX7_proofAt 24 = .ok (.invokestatic 130, 3) := by decide +kernel
theorem dX7_proofAt_27 : decode cX7_proofAt 27 = .ok (.iadd, 1) := by decide +kernel
theorem dX7_proofAt_28 : decode cX7_proofAt 28 = .ok (.istore_n 3, 1) := by decide +kernel
theorem dX7_proofAt_29 : decode cX7_proofAt 29 = .ok (.iinc 2 1, 3) := by decide +kernel
theorem dX7_proofAt_32 : decode cX7_proofAt 32 = .ok (.goto (-28), 3) := by decide +kernel
theorem dX7_proofAt_35 : decode cX7_proofAt 35 = .ok (.iload_n 1, 1) := by decide +kernel
theorem dX7_proofAt_36 : decode cX7_proofAt 36 = .ok (.ifCond .ge 7, 3) := by decide +kernel
theorem dX7_proofAt_39 : decode cX7_proofAt 39 = .ok (.iload_n 2, 1) := by decide +kernel
theorem dX7_proofAt_40 : decode cX7_proofAt 40 = .ok (.goto 5, 3) := by decide +kernel
theorem dX7_proofAt_43 : decode cX7_proofAt 43 = .ok (.bipush (-4), 2) := by decide +kernel
theorem dX7_proofAt_45 : decode cX7_proofAt 45 = .ok (.ireturn, 1) := by decide +kernel
set_option maxRecDepth 20000 in
theorem ggX7_proof_X7_in : GoodIn wsX7_proof wsX7_in := goodIn_r _ [6] (by decide +kernel) (by decide +kernel)
set_option maxRecDepth 20000 in
theorem gX7_proof_X7_in : GoodIn wsX7_proof (va_wsS RX7 90 yX7_in wsX7_in) := goodIn_app (goodIn_of _ (by decide +kernel)) ggX7_proof_X7_in
set_option maxRecDepth 20000 in
theorem ggX7_proof_X7_laysHops : GoodIn wsX7_proof wsX7_laysHops := goodIn_r _ [10, 2, 11, 12, 13, 5, 14, 15, 16, 17, 36, 37, 38, 39, 40, 41, 42, 43, 44, 45, 46, 47, 48, 49, 50, 51, 52, 53] (by decide +kernel) (by decide +kernel)
set_option maxRecDepth 20000 in
theorem gX7_proof_X7_laysHops : GoodIn wsX7_proof (wsV RX7 75 RX7 yX7_laysHops wsX7_laysHops) := goodIn_app (goodIn_of _ (by decide +kernel)) ggX7_proof_X7_laysHops
set_option maxRecDepth 20000 in
theorem ggX7_proof_X7_proofAt : GoodIn wsX7_proof wsX7_proofAt := goodIn_r _ [21, 22, 23, 24, 5, 25, 26, 27, 28, 29, 2, 30, 31, 32, 33, 34, 35, 36, 37, 38, 39, 40, 41, 42, 43, 44, 45, 46, 47, 48, 49, 50, 51, 52, 53] (by decide +kernel) (by decide +kernel)
set_option maxRecDepth 20000 in
theorem gX7_proof_X7_proofAt : GoodIn wsX7_proof (wsV RX7 135 RX7 yX7_proofAt wsX7_proofAt) := goodIn_app (goodIn_of _ (by decide +kernel)) ggX7_proof_X7_proofAt
set_option maxRecDepth 20000 in
theorem ggX7_proof_X7_proofOf : GoodIn wsX7_proof wsX7_proofOf := goodIn_r _ [25, 26, 27, 28, 5, 29, 2, 30, 31, 32, 36, 37, 38, 39, 40, 41, 42, 43, 44, 45, 46, 47, 48, 49, 50, 51, 52, 53] (by decide +kernel) (by decide +kernel)
set_option maxRecDepth 20000 in
theorem gX7_proof_X7_proofOf : GoodIn wsX7_proof (wsV RX7 127 RX7 yX7_proofOf wsX7_proofOf) := goodIn_app (goodIn_of _ (by decide +kernel)) ggX7_proof_X7_proofOf
theorem dX7_proof_0 : decode cX7_proof 0 = .ok (.iload_n 1, 1) := by decide +kernel
theorem dX7_proof_1 : decode cX7_proof 1 = .ok (.ifCond .lt 15, 3) := by decide +kernel
theorem dX7_proof_4 : decode cX7_proof 4 = .ok (.iload_n 2, 1) := by decide +kernel
theorem dX7_proof_5 : decode cX7_proof 5 = .ok (.i2l, 1) := by decide +kernel
theorem dX7_proof_6 : decode cX7_proof 6 = .ok (.lconst 0, 1) := by decide +kernel
theorem dX7_proof_7 : decode cX7_proof 7 = .ok (.ldc2_w 133, 3) := by decide +kernel
theorem dX7_proof_10 : decode cX7_proof 10 = .ok (.invokestatic 90, 3) := by decide +kernel
theorem dX7_proof_13 : decode cX7_proof 13 = .ok (.ifCond .ne 5, 3) := by decide +kernel
theorem dX7_proof_16 : decode cX7_proof 16 = .ok (.iconst (-1), 1) := by decide +kernel
theorem dX7_proof_17 : decode cX7_proof 17 = .ok (.ireturn, 1) := by decide +kernel
theorem dX7_proof_18 : decode cX7_proof 18 = .ok (.aload_n 0, 1) := by decide +kernel
theorem dX7_proof_19 : decode cX7_proof 19 = .ok (.invokevirtual 75, 3) := by decide +kernel
theorem dX7_proof_22 : decode cX7_proof 22 = .ok (.aload_n 0, 1) := by decide +kernel
theorem dX7_proof_23 : decode cX7_proof 23 = .ok (.iload_n 1, 1) := by decide +kernel
theorem dX7_proof_24 : decode cX7_proof 24 = .ok (.invokevirtual 135, 3) := by decide +kernel
theorem dX7_proof_27 : decode cX7_proof 27 = .ok (.istore_n 3, 1) := by decide +kernel
theorem dX7_proof_28 : decode cX7_proof 28 = .ok (.iload_n 3, 1) := by decide +kernel
theorem dX7_proof_29 : decode cX7_proof 29 = .ok (.bipush (-4), 2) := by decide +kernel
theorem dX7_proof_31 : decode cX7_proof 31 = .ok (.if_icmp .ne 6, 3) := by decide +kernel
theorem dX7_proof_34 : decode cX7_proof 34 = .ok (.bipush (-4), 2) := by decide +kernel
theorem dX7_proof_36 : decode cX7_proof 36 = .ok (.ireturn, 1) := by decide +kernel
theorem dX7_proof_37 : decode cX7_proof 37 = .ok (.iload_n 2, 1) := by decide +kernel
theorem dX7_proof_38 : decode cX7_proof 38 = .ok (.ifCond .ne 11, 3) := by decide +kernel
theorem dX7_proof_41 : decode cX7_proof 41 = .ok (.aload_n 0, 1) := by decide +kernel
theorem dX7_proof_42 : decode cX7_proof 42 = .ok (.iload_n 3, 1) := by decide +kernel
theorem dX7_proof_43 : decode cX7_proof 43 = .ok (.invokevirtual 127, 3) := by decide +kernel
theorem dX7_proof_46 : decode cX7_proof 46 = .ok (.goto 27, 3) := by decide +kernel
theorem dX7_proof_49 : decode cX7_proof 49 = .ok (.iload_n 2, 1) := by decide +kernel
theorem dX7_proof_50 : decode cX7_proof 50 = .ok (.iconst 1, 1) := by decide +kernel
theorem dX7_proof_51 : decode cX7_proof 51 = .ok (.if_icmp .ne 12, 3) := by decide +kernel
theorem dX7_proof_54 : decode cX7_proof 54 = .ok (.aload_n 0, 1) := by decide +kernel
theorem dX7_proof_55 : decode cX7_proof 55 = .ok (.getfield 45, 3) := by decide +kernel
theorem dX7_proof_58 : decode cX7_proof 58 = .ok (.iload_n 3, 1) := by decide +kernel
theorem dX7_proof_59 : decode cX7_proof 59 = .ok (.iaload, 1) := by decide +kernel
theorem dX7_proof_60 : decode cX7_proof 60 = .ok (.goto 13, 3) := by decide +kernel
theorem dX7_proof_63 : decode cX7_proof 63 = .ok (.aload_n 0, 1) := by decide +kernel
theorem dX7_proof_64 : decode cX7_proof 64 = .ok (.getfield 45, 3) := by decide +kernel
theorem dX7_proof_67 : decode cX7_proof 67 = .ok (.sipush 256, 3) := by decide +kernel
theorem dX7_proof_70 : decode cX7_proof 70 = .ok (.iload_n 3, 1) := by decide +kernel
theorem dX7_proof_71 : decode cX7_proof 71 = .ok (.iadd, 1) := by decide +kernel
theorem dX7_proof_72 : decode cX7_proof 72 = .ok (.iaload, 1) := by decide +kernel
theorem dX7_proof_73 : decode cX7_proof 73 = .ok (.ireturn, 1) := by decide +kernel
set_option maxRecDepth 20000 in
theorem ggX7_redundant_X7_isRedundant : GoodIn wsX7_redundant wsX7_isRedundant := goodIn_r _ [6, 1, 7, 8, 9, 5, 10, 11, 12, 13, 14, 15, 16, 17, 18, 19, 20, 21, 22, 23, 24, 25, 26, 27, 28, 29, 30, 31] (by decide +kernel) (by decide +kernel)
set_option maxRecDepth 20000 in
theorem gX7_redundant_X7_isRedundant : GoodIn wsX7_redundant (wsV RX7 113 RX7 yX7_isRedundant wsX7_isRedundant) := goodIn_app (goodIn_of _ (by decide +kernel)) ggX7_redundant_X7_isRedundant
theorem dX7_redundant_0 : decode cX7_redundant 0 = .ok (.iconst 0, 1) := by decide +kernel
theorem dX7_redundant_1 : decode cX7_redundant 1 = .ok (.istore_n 1, 1) := by decide +kernel
theorem dX7_redundant_2 : decode cX7_redundant 2 = .ok (.iconst 1, 1) := by decide +kernel
theorem dX7_redundant_3 : decode cX7_redundant 3 = .ok (.istore_n 2, 1) := by decide +kernel
theorem dX7_redundant_4 : decode cX7_redundant 4 = .ok (.iload_n 2, 1) := by decide +kernel
theorem dX7_redundant_5 : decode cX7_redundant 5 = .ok (.sipush 512, 3) := by decide +kernel
theorem dX7_redundant_8 : decode cX7_redundant 8 = .ok (.if_icmp .ge 38, 3) := by decide +kernel
theorem dX7_redundant_11 : decode cX7_redundant 11 = .ok (.iload_n 1, 1) := by decide +kernel
theorem dX7_redundant_12 : decode cX7_redundant 12 = .ok (.aload_n 0, 1) := by decide +kernel
theorem dX7_redundant_13 : decode cX7_redundant 13 = .ok (.getfield 7, 3) := by decide +kernel
theorem dX7_redundant_16 : decode cX7_redundant 16 = .ok (.iconst 0, 1) := by decide +kernel
theorem dX7_redundant_17 : decode cX7_redundant 17 = .ok (.iload_n 2, 1) := by decide +kernel
theorem dX7_redundant_18 : decode cX7_redundant 18 = .ok (.iadd, 1) := by decide +kernel
theorem dX7_redundant_19 : decode cX7_redundant 19 = .ok (.iaload, 1) := by decide +kernel
theorem dX7_redundant_20 : decode cX7_redundant 20 = .ok (.bipush 8, 2) := by decide +kernel
theorem dX7_redundant_22 : decode cX7_redundant 22 = .ok (.if_icmp .eq 15, 3) := by decide +kernel
theorem dX7_redundant_25 : decode cX7_redundant 25 = .ok (.aload_n 0, 1) := by decide +kernel
theorem dX7_redundant_26 : decode cX7_redundant 26 = .ok (.iload_n 2, 1) := by decide +kernel
theorem dX7_redundant_27 : decode cX7_redundant 27 = .ok (.invokevirtual 113, 3) := by decide +kernel
theorem dX7_redundant_30 : decode cX7_redundant 30 = .ok (.ifCond .eq 7, 3) := by decide +kernel
theorem dX7_redundant_33 : decode cX7_redundant 33 = .ok (.iconst 1, 1) := by decide +kernel
theorem dX7_redundant_34 : decode cX7_redundant 34 = .ok (.goto 4, 3) := by decide +kernel
theorem dX7_redundant_37 : decode cX7_redundant 37 = .ok (.iconst 0, 1) := by decide +kernel
theorem dX7_redundant_38 : decode cX7_redundant 38 = .ok (.iadd, 1) := by decide +kernel
theorem dX7_redundant_39 : decode cX7_redundant 39 = .ok (.istore_n 1, 1) := by decide +kernel
theorem dX7_redundant_40 : decode cX7_redundant 40 = .ok (.iinc 2 1, 3) := by decide +kernel
theorem dX7_redundant_43 : decode cX7_redundant 43 = .ok (.goto (-39), 3) := by decide +kernel
theorem dX7_redundant_46 : decode cX7_redundant 46 = .ok (.iload_n 1, 1) := by decide +kernel
theorem dX7_redundant_47 : decode cX7_redundant 47 = .ok (.ireturn, 1) := by decide +kernel
theorem dX7_firstUnlike_0 : decode cX7_firstUnlike 0 = .ok (.iconst 0, 1) := by decide +kernel
theorem dX7_firstUnlike_1 : decode cX7_firstUnlike 1 = .ok (.istore_n 1, 1) := by decide +kernel
theorem dX7_firstUnlike_2 : decode cX7_firstUnlike 2 = .ok (.iload_n 1, 1) := by decide +kernel
theorem dX7_firstUnlike_3 : decode cX7_firstUnlike 3 = .ok (.sipush 256, 3) := by decide +kernel
theorem dX7_firstUnlike_6 : decode cX7_firstUnlike 6 = .ok (.if_icmp .ge 28, 3) := by decide +kernel
theorem dX7_firstUnlike_9 : decode cX7_firstUnlike 9 = .ok (.aload_n 0, 1) := by decide +kernel
theorem dX7_firstUnlike_10 : decode cX7_firstUnlike 10 = .ok (.getfield 45, 3) := by decide +kernel
theorem dX7_firstUnlike_13 : decode cX7_firstUnlike 13 = .ok (.iload_n 1, 1) := by decide +kernel
theorem dX7_firstUnlike_14 : decode cX7_firstUnlike 14 = .ok (.iaload, 1) := by decide +kernel
theorem dX7_firstUnlike_15 : decode cX7_firstUnlike 15 = .ok (.aload_n 0, 1) := by decide +kernel
theorem dX7_firstUnlike_16 : decode cX7_firstUnlike 16 = .ok (.getfield 45, 3) := by decide +kernel
theorem dX7_firstUnlike_19 : decode cX7_firstUnlike 19 = .ok (.sipush 256, 3) := by decide +kernel
theorem dX7_firstUnlike_22 : decode cX7_firstUnlike 22 = .ok (.iload_n 1, 1) := by decide +kernel
theorem dX7_firstUnlike_23 : decode cX7_firstUnlike 23 = .ok (.iadd, 1) := by decide +kernel
theorem dX7_firstUnlike_24 : decode cX7_firstUnlike 24 = .ok (.iaload, 1) := by decide +kernel
theorem dX7_firstUnlike_25 : decode cX7_firstUnlike 25 = .ok (.if_icmp .ne 9, 3) := by decide +kernel
theorem dX7_firstUnlike_28 : decode cX7_firstUnlike 28 = .ok (.iinc 1 1, 3) := by decide +kernel
theorem dX7_firstUnlike_31 : decode cX7_firstUnlike 31 = .ok (.goto (-29), 3) := by decide +kernel
theorem dX7_firstUnlike_34 : decode cX7_firstUnlike 34 = .ok (.iload_n 1, 1) := by decide +kernel
theorem dX7_firstUnlike_35 : decode cX7_firstUnlike 35 = .ok (.sipush 256, 3) := by decide +kernel
theorem dX7_firstUnlike_38 : decode cX7_firstUnlike 38 = .ok (.if_icmp .ge 7, 3) := by decide +kernel
theorem dX7_firstUnlike_41 : decode cX7_firstUnlike 41 = .ok (.iload_n 1, 1) := by decide +kernel
theorem dX7_firstUnlike_42 : decode cX7_firstUnlike 42 = .ok (.goto 5, 3) := by decide +kernel
theorem dX7_firstUnlike_45 : decode cX7_firstUnlike 45 = .ok (.bipush (-4), 2) := by decide +kernel
theorem dX7_firstUnlike_47 : decode cX7_firstUnlike 47 = .ok (.ireturn, 1) := by decide +kernel
set_option maxRecDepth 20000 in
theorem ggX7_count_X7_lays : GoodIn wsX7_count wsX7_lays := goodIn_r _ [8, 9, 10, 11, 7, 12, 13, 1, 14, 15, 16, 17, 18, 19, 20, 21, 22, 23, 24, 25, 26, 27, 28, 29, 30, 31, 32, 2, 33, 34, 35, 36, 37, 38, 39, 40, 78, 79, 80, 81, 82, 83, 84, 85, 86, 87, 88, 89, 90, 91, 92, 93, 94, 95] (by decide +kernel) (by decide +kernel)
set_option maxRecDepth 20000 in
theorem gX7_count_X7_lays : GoodIn wsX7_count (wsV RX7 96 RX7 yX7_lays wsX7_lays) := goodIn_app (goodIn_of _ (by decide +kernel)) ggX7_count_X7_lays
set_option maxRecDepth 20000 in
theorem ggX7_count_X7_many : GoodIn wsX7_count wsX7_many := goodIn_r _ [43] (by decide +kernel) (by decide +kernel)
set_option maxRecDepth 20000 in
theorem gX7_count_X7_many : GoodIn wsX7_count (va_wsS RX7 138 yX7_many wsX7_many) := goodIn_app (goodIn_of _ (by decide +kernel)) ggX7_count_X7_many
set_option maxRecDepth 20000 in
theorem ggX7_count_X7_changes : GoodIn wsX7_count wsX7_changes := goodIn_r _ [47, 2, 1, 78, 79, 80, 81, 82, 83, 84, 85, 86, 87, 88, 89, 90, 91, 92, 93, 94, 95] (by decide +kernel) (by decide +kernel)
set_option maxRecDepth 20000 in
theorem gX7_count_X7_changes : GoodIn wsX7_count (wsV RX7 142 RX7 yX7_changes wsX7_changes) := goodIn_app (goodIn_of _ (by decide +kernel)) ggX7_count_X7_changes
set_option maxRecDepth 20000 in
theorem ggX7_count_X7_proofAt : GoodIn wsX7_count wsX7_proofAt := goodIn_r _ [51, 52, 53, 54, 7, 55, 56, 57, 58, 59, 13, 60, 61, 62, 63, 64, 65, 78, 79, 80, 81, 82, 83, 84, 85, 86, 87, 88, 89, 90, 91, 92, 93, 94, 95] (by decide +kernel) (by decide +kernel)
set_option maxRecDepth 20000 in
theorem gX7_count_X7_proofAt : GoodIn wsX7_count (wsV RX7 135 RX7 yX7_proofAt wsX7_proofAt) := goodIn_app (goodIn_of _ (by decide +kernel)) ggX7_count_X7_proofAt
set_option maxRecDepth 20000 in
theorem ggX7_count_X7_redundant : GoodIn wsX7_count wsX7_redundant := goodIn_r _ [69, 1, 70, 71, 72, 7, 73, 13, 14, 15, 16, 17, 18, 19, 78, 79, 80, 81, 82, 83, 84, 85, 86, 87, 88, 89, 90, 91, 92, 93, 94, 95] (by decide +kernel) (by decide +kernel)
set_option maxRecDepth 20000 in
theorem gX7_count_X7_redundant : GoodIn wsX7_count (wsV RX7 146 RX7 yX7_redundant wsX7_redundant) := goodIn_app (goodIn_of _ (by decide +kernel)) ggX7_count_X7_redundant
set_option maxRecDepth 20000 in
theorem ggX7_count_X7_firstUnlike : GoodIn wsX7_count wsX7_firstUnlike := goodIn_r _ [77, 13, 78, 79, 80, 81, 82, 83, 84, 85, 86, 87, 88, 89, 90, 91, 92, 93, 94, 95] (by decide +kernel) (by decide +kernel)
set_option maxRecDepth 20000 in
theorem gX7_count_X7_firstUnlike : GoodIn wsX7_count (wsV RX7 149 RX7 yX7_firstUnlike wsX7_firstUnlike) := goodIn_app (goodIn_of _ (by decide +kernel)) ggX7_count_X7_firstUnlike
theorem dX7_count_0 : decode cX7_count 0 = .ok (.aload_n 0, 1) := by decide +kernel
theorem dX7_count_1 : decode cX7_count 1 = .ok (.invokevirtual 96, 3) := by decide +kernel
theorem dX7_count_4 : decode cX7_count 4 = .ok (.iload_n 1, 1) := by decide +kernel
theorem dX7_count_5 : decode cX7_count 5 = .ok (.tableswitch 102 0 7 #[47, 56, 65, 76, 81, 87, 92, 97], 47) := by decide +kernel
theorem dX7_count_52 : decode cX7_count 52 = .ok (.aload_n 0, 1) := by decide +kernel
theorem dX7_count_53 : decode cX7_count 53 = .ok (.getfield 7, 3) := by decide +kernel
theorem dX7_count_56 : decode cX7_count 56 = .ok (.iconst 0, 1) := by decide +kernel
theorem dX7_count_57 : decode cX7_count 57 = .ok (.invokestatic 138, 3) := by decide +kernel
theorem dX7_count_60 : decode cX7_count 60 = .ok (.ireturn, 1) := by decide +kernel
theorem dX7_count_61 : decode cX7_count 61 = .ok (.aload_n 0, 1) := by decide +kernel
theorem dX7_count_62 : decode cX7_count 62 = .ok (.getfield 39, 3) := by decide +kernel
theorem dX7_count_65 : decode cX7_count 65 = .ok (.iconst 0, 1) := by decide +kernel
theorem dX7_count_66 : decode cX7_count 66 = .ok (.invokestatic 138, 3) := by decide +kernel
theorem dX7_count_69 : decode cX7_count 69 = .ok (.ireturn, 1) := by decide +kernel
theorem dX7_count_70 : decode cX7_count 70 = .ok (.aload_n 0, 1) := by decide +kernel
theorem dX7_count_71 : decode cX7_count 71 = .ok (.getfield 7, 3) := by decide +kernel
theorem dX7_count_74 : decode cX7_count 74 = .ok (.sipush 512, 3) := by decide +kernel
theorem dX7_count_77 : decode cX7_count 77 = .ok (.invokestatic 138, 3) := by decide +kernel
theorem dX7_count_80 : decode cX7_count 80 = .ok (.ireturn, 1) := by decide +kernel
theorem dX7_count_81 : decode cX7_count 81 = .ok (.aload_n 0, 1) := by decide +kernel
theorem dX7_count_82 : decode cX7_count 82 = .ok (.invokevirtual 142, 3) := by decide +kernel
theorem dX7_count_85 : decode cX7_count 85 = .ok (.ireturn, 1) := by decide +kernel
theorem dX7_count_86 : decode cX7_count 86 = .ok (.aload_n 0, 1) := by decide +kernel
theorem dX7_count_87 : decode cX7_count 87 = .ok (.iconst (-1), 1) := by decide +kernel
theorem dX7_count_88 : decode cX7_count 88 = .ok (.invokevirtual 135, 3) := by decide +kernel
theorem dX7_count_91 : decode cX7_count 91 = .ok (.ireturn, 1) := by decide +kernel
theorem dX7_count_92 : decode cX7_count 92 = .ok (.aload_n 0, 1) := by decide +kernel
theorem dX7_count_93 : decode cX7_count 93 = .ok (.invokevirtual 146, 3) := by decide +kernel
theorem dX7_count_96 : decode cX7_count 96 = .ok (.ireturn, 1) := by decide +kernel
theorem dX7_count_97 : decode cX7_count 97 = .ok (.aload_n 0, 1) := by decide +kernel
theorem dX7_count_98 : decode cX7_count 98 = .ok (.invokevirtual 149, 3) := by decide +kernel
theorem dX7_count_101 : decode cX7_count 101 = .ok (.ireturn, 1) := by decide +kernel
theorem dX7_count_102 : decode cX7_count 102 = .ok (.aload_n 0, 1) := by decide +kernel
theorem dX7_count_103 : decode cX7_count 103 = .ok (.getfield 152, 3) := by decide +kernel
theorem dX7_count_106 : decode cX7_count 106 = .ok (.ireturn, 1) := by decide +kernel
theorem dX7_count_107 : decode cX7_count 107 = .ok (.iconst (-1), 1) := by decide +kernel
theorem dX7_count_108 : decode cX7_count 108 = .ok (.ireturn, 1) := by decide +kernel
set_option maxRecDepth 20000 in
theorem ggX7_chances_X7_hopBy : GoodIn wsX7_chances wsX7_hopBy := goodIn_r _ [6, 7, 8, 5, 9] (by decide +kernel) (by decide +kernel)
set_option maxRecDepth 20000 in
theorem gX7_chances_X7_hopBy : GoodIn wsX7_chances (va_wsS RX7 72 yX7_hopBy wsX7_hopBy) := goodIn_app (goodIn_of _ (by decide +kernel)) ggX7_chances_X7_hopBy
theorem dX7_chances_0 : decode cX7_chances 0 = .ok (.aload_n 0, 1) := by decide +kernel
theorem dX7_chances_1 : decode cX7_chances 1 = .ok (.getfield 7, 3) := by decide +kernel
theorem dX7_chances_4 : decode cX7_chances 4 = .ok (.iconst 0, 1) := by decide +kernel
theorem dX7_chances_5 : decode cX7_chances 5 = .ok (.iload_n 1, 1) := by decide +kernel
theorem dX7_chances_6 : decode cX7_chances 6 = .ok (.iconst 0, 1) := by decide +kernel
theorem dX7_chances_7 : decode cX7_chances 7 = .ok (.invokestatic 72, 3) := by decide +kernel
theorem dX7_chances_10 : decode cX7_chances 10 = .ok (.istore 4, 2) := by decide +kernel
theorem dX7_chances_12 : decode cX7_chances 12 = .ok (.iconst 0, 1) := by decide +kernel
theorem dX7_chances_13 : decode cX7_chances 13 = .ok (.istore 5, 2) := by decide +kernel
theorem dX7_chances_15 : decode cX7_chances 15 = .ok (.iconst 0, 1) := by decide +kernel
theorem dX7_chances_16 : decode cX7_chances 16 = .ok (.istore 6, 2) := by decide +kernel
theorem dX7_chances_18 : decode cX7_chances 18 = .ok (.iload 6, 2) := by decide +kernel
theorem dX7_chances_20 : decode cX7_chances 20 = .ok (.iconst 1, 1) := by decide +kernel
theorem dX7_chances_21 : decode cX7_chances 21 = .ok (.iload_n 3, 1) := by decide +kernel
theorem dX7_chances_22 : decode cX7_chances 22 = .ok (.ishl, 1) := by decide +kernel
theorem dX7_chances_23 : decode cX7_chances 23 = .ok (.if_icmp .ge 135, 3) := by decide +kernel
theorem dX7_chances_26 : decode cX7_chances 26 = .ok (.iconst 1, 1) := by decide +kernel
theorem dX7_chances_27 : decode cX7_chances 27 = .ok (.istore 7, 2) := by decide +kernel
theorem dX7_chances_29 : decode cX7_chances 29 = .ok (.iconst 0, 1) := by decide +kernel
theorem dX7_chances_30 : decode cX7_chances 30 = .ok (.istore 8, 2) := by decide +kernel
theorem dX7_chances_32 : decode cX7_chances 32 = .ok (.iconst 0, 1) := by decide +kernel
theorem dX7_chances_33 : decode cX7_chances 33 = .ok (.istore 9, 2) := by decide +kernel
theorem dX7_chances_35 : decode cX7_chances 35 = .ok (.iconst 0, 1) := by decide +kernel
theorem dX7_chances_36 : decode cX7_chances 36 = .ok (.istore 10, 2) := by decide +kernel
theorem dX7_chances_38 : decode cX7_chances 38 = .ok (.iload 10, 2) := by decide +kernel
theorem dX7_chances_40 : decode cX7_chances 40 = .ok (.iload_n 3, 1) := by decide +kernel
theorem dX7_chances_41 : decode cX7_chances 41 = .ok (.if_icmp .ge 93, 3) := by decide +kernel
theorem dX7_chances_44 : decode cX7_chances 44 = .ok (.iload 6, 2) := by decide +kernel
theorem dX7_chances_46 : decode cX7_chances 46 = .ok (.iload 10, 2) := by decide +kernel
theorem dX7_chances_48 : decode cX7_chances 48 = .ok (.ishr, 1) := by decide +kernel
theorem dX7_chances_49 : decode cX7_chances 49 = .ok (.iconst 1, 1) := by decide +kernel
theorem dX7_chances_50 : decode cX7_chances 50 = .ok (.iand, 1) := by decide +kernel
theorem dX7_chances_51 : decode cX7_chances 51 = .ok (.iconst 1, 1) := by decide +kernel
theorem dX7_chances_52 : decode cX7_chances 52 = .ok (.if_icmp .ne 7, 3) := by decide +kernel
theorem dX7_chances_55 : decode cX7_chances 55 = .ok (.iconst 1, 1) := by decide +kernel
theorem dX7_chances_56 : decode cX7_chances 56 = .ok (.goto 4, 3) := by decide +kernel
theorem dX7_chances_59 : decode cX7_chances 59 = .ok (.iconst 0, 1) := by decide +kernel
theorem dX7_chances_60 : decode cX7_chances 60 = .ok (.istore 11, 2) := by decide +kernel
theorem dX7_chances_62 : decode cX7_chances 62 = .ok (.iload 7, 2) := by decide +kernel
theorem dX7_chances_64 : decode cX7_chances 64 = .ok (.iload 11, 2) := by decide +kernel
theorem dX7_chances_66 : decode cX7_chances 66 = .ok (.ifCond .eq 10, 3) := by decide +kernel
theorem dX7_chances_69 : decode cX7_chances 69 = .ok (.bipush 10, 2) := by decide +kernel
theorem dX7_chances_71 : decode cX7_chances 71 = .ok (.iload_n 2, 1) := by decide +kernel
theorem dX7_chances_72 : decode cX7_chances 72 = .ok (.isub, 1) := by decide +kernel
theorem dX7_chances_73 : decode cX7_chances 73 = .ok (.goto 4, 3) := by decide +kernel
theorem dX7_chances_76 : decode cX7_chances 76 = .ok (.iload_n 2, 1) := by decide +kernel
theorem dX7_chances_77 : decode cX7_chances 77 = .ok (.imul, 1) := by decide +kernel
theorem dX7_chances_78 : decode cX7_chances 78 = .ok (.istore 7, 2) := by decide +kernel
theorem dX7_chances_80 : decode cX7_chances 80 = .ok (.iload 11, 2) := by decide +kernel
theorem dX7_chances_82 : decode cX7_chances 82 = .ok (.ifCond .eq 25, 3) := by decide +kernel
theorem dX7_chances_85 : decode cX7_chances 85 = .ok (.iload 9, 2) := by decide +kernel
theorem dX7_chances_87 : decode cX7_chances 87 = .ok (.ifCond .ne 20, 3) := by decide +kernel
theorem dX7_chances_90 : decode cX7_chances 90 = .ok (.aload_n 0, 1) := by decide +kernel
theorem dX7_chances_91 : decode cX7_chances 91 = .ok (.getfield 7, 3) := by decide +kernel
theorem dX7_chances_94 : decode cX7_chances 94 = .ok (.iconst 0, 1) := by decide +kernel
theorem dX7_chances_95 : decode cX7_chances 95 = .ok (.aload_n 0, 1) := by decide +kernel
theorem dX7_chances_96 : decode cX7_chances 96 = .ok (.getfield 51, 3) := by decide +kernel
theorem dX7_chances_99 : decode cX7_chances 99 = .ok (.iload 10, 2) := by decide +kernel
theorem dX7_chances_101 : decode cX7_chances 101 = .ok (.iaload, 1) := by decide +kernel
theorem dX7_chances_102 : decode cX7_chances 102 = .ok (.iadd, 1) := by decide +kernel
theorem dX7_chances_103 : decode cX7_chances 103 = .ok (.iaload, 1) := by decide +kernel
theorem dX7_chances_104 : decode cX7_chances 104 = .ok (.goto 5, 3) := by decide +kernel
theorem dX7_chances_107 : decode cX7_chances 107 = .ok (.iload 8, 2) := by decide +kernel
theorem dX7_chances_109 : decode cX7_chances 109 = .ok (.istore 8, 2) := by decide +kernel
theorem dX7_chances_111 : decode cX7_chances 111 = .ok (.iload 9, 2) := by decide +kernel
theorem dX7_chances_113 : decode cX7_chances 113 = .ok (.ifCond .ne 8, 3) := by decide +kernel
theorem dX7_chances_116 : decode cX7_chances 116 = .ok (.iload 11, 2) := by decide +kernel
theorem dX7_chances_118 : decode cX7_chances 118 = .ok (.ifCond .eq 7, 3) := by decide +kernel
theorem dX7_chances_121 : decode cX7_chances 121 = .ok (.iconst 1, 1) := by decide +kernel
theorem dX7_chances_122 : decode cX7_chances 122 = .ok (.goto 4, 3) := by decide +kernel
theorem dX7_chances_125 : decode cX7_chances 125 = .ok (.iconst 0, 1) := by decide +kernel
theorem dX7_chances_126 : decode cX7_chances 126 = .ok (.istore 9, 2) := by decide +kernel
theorem dX7_chances_128 : decode cX7_chances 128 = .ok (.iinc 10 1, 3) := by decide +kernel
theorem dX7_chances_131 : decode cX7_chances 131 = .ok (.goto (-93), 3) := by decide +kernel
theorem dX7_chances_134 : decode cX7_chances 134 = .ok (.iload 5, 2) := by decide +kernel
theorem dX7_chances_136 : decode cX7_chances 136 = .ok (.iload 8, 2) := by decide +kernel
theorem dX7_chances_138 : decode cX7_chances 138 = .ok (.iload 4, 2) := by decide +kernel
theorem dX7_chances_140 : decode cX7_chances 140 = .ok (.if_icmp .ne 8, 3) := by decide +kernel
theorem dX7_chances_143 : decode cX7_chances 143 = .ok (.iload 7, 2) := by decide +kernel
theorem dX7_chances_145 : decode cX7_chances 145 = .ok (.goto 4, 3) := by decide +kernel
theorem dX7_chances_148 : decode cX7_chances 148 = .ok (.iconst 0, 1) := by decide +kernel
theorem dX7_chances_149 : decode cX7_chances 149 = .ok (.iadd, 1) := by decide +kernel
theorem dX7_chances_150 : decode cX7_chances 150 = .ok (.istore 5, 2) := by decide +kernel
theorem dX7_chances_152 : decode cX7_chances 152 = .ok (.iinc 6 1, 3) := by decide +kernel
theorem dX7_chances_155 : decode cX7_chances 155 = .ok (.goto (-137), 3) := by decide +kernel
theorem dX7_chances_158 : decode cX7_chances 158 = .ok (.iload 5, 2) := by decide +kernel
theorem dX7_chances_160 : decode cX7_chances 160 = .ok (.ireturn, 1) := by decide +kernel
set_option maxRecDepth 20000 in
theorem ggX7_lost_X7_in : GoodIn wsX7_lost wsX7_in := goodIn_r _ [8] (by decide +kernel) (by decide +kernel)
set_option maxRecDepth 20000 in
theorem gX7_lost_X7_in : GoodIn wsX7_lost (va_wsS RX7 90 yX7_in wsX7_in) := goodIn_app (goodIn_of _ (by decide +kernel)) ggX7_lost_X7_in
set_option maxRecDepth 20000 in
theorem ggX7_lost_X7_chances : GoodIn wsX7_lost wsX7_chances := goodIn_r _ [12, 3, 4, 13, 14, 7, 15, 16, 17, 18, 19, 20, 21, 22, 23, 24, 25, 26, 27, 28, 29, 30, 31, 32, 33, 34, 35, 36] (by decide +kernel) (by decide +kernel)
set_option maxRecDepth 20000 in
theorem gX7_lost_X7_chances : GoodIn wsX7_lost (wsV RX7 157 RX7 yX7_chances wsX7_chances) := goodIn_app (goodIn_of _ (by decide +kernel)) ggX7_lost_X7_chances
theorem dX7_lost_0 : decode cX7_lost 0 = .ok (.iload_n 1, 1) := by decide +kernel
theorem dX7_lost_1 : decode cX7_lost 1 = .ok (.i2l, 1) := by decide +kernel
theorem dX7_lost_2 : decode cX7_lost 2 = .ok (.lconst 0, 1) := by decide +kernel
theorem dX7_lost_3 : decode cX7_lost 3 = .ok (.ldc2_w 88, 3) := by decide +kernel
theorem dX7_lost_6 : decode cX7_lost 6 = .ok (.invokestatic 90, 3) := by decide +kernel
theorem dX7_lost_9 : decode cX7_lost 9 = .ok (.ifCond .eq 25, 3) := by decide +kernel
theorem dX7_lost_12 : decode cX7_lost 12 = .ok (.iload_n 2, 1) := by decide +kernel
theorem dX7_lost_13 : decode cX7_lost 13 = .ok (.i2l, 1) := by decide +kernel
theorem dX7_lost_14 : decode cX7_lost 14 = .ok (.lconst 0, 1) := by decide +kernel
theorem dX7_lost_15 : decode cX7_lost 15 = .ok (.ldc2_w 155, 3) := by decide +kernel
theorem dX7_lost_18 : decode cX7_lost 18 = .ok (.invokestatic 90, 3) := by decide +kernel
theorem dX7_lost_21 : decode cX7_lost 21 = .ok (.ifCond .eq 13, 3) := by decide +kernel
theorem dX7_lost_24 : decode cX7_lost 24 = .ok (.iload_n 3, 1) := by decide +kernel
theorem dX7_lost_25 : decode cX7_lost 25 = .ok (.i2l, 1) := by decide +kernel
theorem dX7_lost_26 : decode cX7_lost 26 = .ok (.lconst 0, 1) := by decide +kernel
theorem dX7_lost_27 : decode cX7_lost 27 = .ok (.lconst 1, 1) := by decide +kernel
theorem dX7_lost_28 : decode cX7_lost 28 = .ok (.invokestatic 90, 3) := by decide +kernel
theorem dX7_lost_31 : decode cX7_lost 31 = .ok (.ifCond .ne 5, 3) := by decide +kernel
theorem dX7_lost_34 : decode cX7_lost 34 = .ok (.iconst (-1), 1) := by decide +kernel
theorem dX7_lost_35 : decode cX7_lost 35 = .ok (.ireturn, 1) := by decide +kernel
theorem dX7_lost_36 : decode cX7_lost 36 = .ok (.iconst 0, 1) := by decide +kernel
theorem dX7_lost_37 : decode cX7_lost 37 = .ok (.istore 4, 2) := by decide +kernel
theorem dX7_lost_39 : decode cX7_lost 39 = .ok (.iconst 1, 1) := by decide +kernel
theorem dX7_lost_40 : decode cX7_lost 40 = .ok (.istore 5, 2) := by decide +kernel
theorem dX7_lost_42 : decode cX7_lost 42 = .ok (.sipush 256, 3) := by decide +kernel
theorem dX7_lost_45 : decode cX7_lost 45 = .ok (.iload_n 1, 1) := by decide +kernel
theorem dX7_lost_46 : decode cX7_lost 46 = .ok (.iadd, 1) := by decide +kernel
theorem dX7_lost_47 : decode cX7_lost 47 = .ok (.istore 6, 2) := by decide +kernel
theorem dX7_lost_49 : decode cX7_lost 49 = .ok (.iload 6, 2) := by decide +kernel
theorem dX7_lost_51 : decode cX7_lost 51 = .ok (.ifCond .le 45, 3) := by decide +kernel
theorem dX7_lost_54 : decode cX7_lost 54 = .ok (.aload_n 0, 1) := by decide +kernel
theorem dX7_lost_55 : decode cX7_lost 55 = .ok (.getfield 7, 3) := by decide +kernel
theorem dX7_lost_58 : decode cX7_lost 58 = .ok (.iconst 0, 1) := by decide +kernel
theorem dX7_lost_59 : decode cX7_lost 59 = .ok (.iload 6, 2) := by decide +kernel
theorem dX7_lost_61 : decode cX7_lost 61 = .ok (.iadd, 1) := by decide +kernel
theorem dX7_lost_62 : decode cX7_lost 62 = .ok (.iaload, 1) := by decide +kernel
theorem dX7_lost_63 : decode cX7_lost 63 = .ok (.bipush 8, 2) := by decide +kernel
theorem dX7_lost_65 : decode cX7_lost 65 = .ok (.if_icmp .eq 22, 3) := by decide +kernel
theorem dX7_lost_68 : decode cX7_lost 68 = .ok (.aload_n 0, 1) := by decide +kernel
theorem dX7_lost_69 : decode cX7_lost 69 = .ok (.getfield 51, 3) := by decide +kernel
theorem dX7_lost_72 : decode cX7_lost 72 = .ok (.iload 4, 2) := by decide +kernel
theorem dX7_lost_74 : decode cX7_lost 74 = .ok (.iload 6, 2) := by decide +kernel
theorem dX7_lost_76 : decode cX7_lost 76 = .ok (.iastore, 1) := by decide +kernel
theorem dX7_lost_77 : decode cX7_lost 77 = .ok (.iinc 4 1, 3) := by decide +kernel
theorem dX7_lost_80 : decode cX7_lost 80 = .ok (.iload 5, 2) := by decide +kernel
theorem dX7_lost_82 : decode cX7_lost 82 = .ok (.bipush 10, 2) := by decide +kernel
theorem dX7_lost_84 : decode cX7_lost 84 = .ok (.imul, 1) := by decide +kernel
theorem dX7_lost_85 : decode cX7_lost 85 = .ok (.istore 5, 2) := by decide +kernel
theorem dX7_lost_87 : decode cX7_lost 87 = .ok (.iload 6, 2) := by decide +kernel
theorem dX7_lost_89 : decode cX7_lost 89 = .ok (.iconst 2, 1) := by decide +kernel
theorem dX7_lost_90 : decode cX7_lost 90 = .ok (.idiv, 1) := by decide +kernel
theorem dX7_lost_91 : decode cX7_lost 91 = .ok (.istore 6, 2) := by decide +kernel
theorem dX7_lost_93 : decode cX7_lost 93 = .ok (.goto (-44), 3) := by decide +kernel
theorem dX7_lost_96 : decode cX7_lost 96 = .ok (.aload_n 0, 1) := by decide +kernel
theorem dX7_lost_97 : decode cX7_lost 97 = .ok (.iload_n 1, 1) := by decide +kernel
theorem dX7_lost_98 : decode cX7_lost 98 = .ok (.iload_n 2, 1) := by decide +kernel
theorem dX7_lost_99 : decode cX7_lost 99 = .ok (.iload 4, 2) := by decide +kernel
theorem dX7_lost_101 : decode cX7_lost 101 = .ok (.invokevirtual 157, 3) := by decide +kernel
theorem dX7_lost_104 : decode cX7_lost 104 = .ok (.istore 6, 2) := by decide +kernel
theorem dX7_lost_106 : decode cX7_lost 106 = .ok (.iload 6, 2) := by decide +kernel
theorem dX7_lost_108 : decode cX7_lost 108 = .ok (.istore 7, 2) := by decide +kernel
theorem dX7_lost_110 : decode cX7_lost 110 = .ok (.iload 5, 2) := by decide +kernel
theorem dX7_lost_112 : decode cX7_lost 112 = .ok (.istore 8, 2) := by decide +kernel
theorem dX7_lost_114 : decode cX7_lost 114 = .ok (.iload 8, 2) := by decide +kernel
theorem dX7_lost_116 : decode cX7_lost 116 = .ok (.ifCond .eq 21, 3) := by decide +kernel
theorem dX7_lost_119 : decode cX7_lost 119 = .ok (.iload 7, 2) := by decide +kernel
theorem dX7_lost_121 : decode cX7_lost 121 = .ok (.iload 8, 2) := by decide +kernel
theorem dX7_lost_123 : decode cX7_lost 123 = .ok (.irem, 1) := by decide +kernel
theorem dX7_lost_124 : decode cX7_lost 124 = .ok (.istore 9, 2) := by decide +kernel
theorem dX7_lost_126 : decode cX7_lost 126 = .ok (.iload 8, 2) := by decide +kernel
theorem dX7_lost_128 : decode cX7_lost 128 = .ok (.istore 7, 2) := by decide +kernel
theorem dX7_lost_130 : decode cX7_lost 130 = .ok (.iload 9, 2) := by decide +kernel
theorem dX7_lost_132 : decode cX7_lost 132 = .ok (.istore 8, 2) := by decide +kernel
theorem dX7_lost_134 : decode cX7_lost 134 = .ok (.goto (-20), 3) := by decide +kernel
theorem dX7_lost_137 : decode cX7_lost 137 = .ok (.iload_n 3, 1) := by decide +kernel
theorem dX7_lost_138 : decode cX7_lost 138 = .ok (.ifCond .ne 11, 3) := by decide +kernel
theorem dX7_lost_141 : decode cX7_lost 141 = .ok (.iload 6, 2) := by decide +kernel
theorem dX7_lost_143 : decode cX7_lost 143 = .ok (.iload 7, 2) := by decide +kernel
theorem dX7_lost_145 : decode cX7_lost 145 = .ok (.idiv, 1) := by decide +kernel
theorem dX7_lost_146 : decode cX7_lost 146 = .ok (.goto 8, 3) := by decide +kernel
theorem dX7_lost_149 : decode cX7_lost 149 = .ok (.iload 5, 2) := by decide +kernel
theorem dX7_lost_151 : decode cX7_lost 151 = .ok (.iload 7, 2) := by decide +kernel
theorem dX7_lost_153 : decode cX7_lost 153 = .ok (.idiv, 1) := by decide +kernel
theorem dX7_lost_154 : decode cX7_lost 154 = .ok (.ireturn, 1) := by decide +kernel
set_option maxRecDepth 20000 in
theorem ggX7_notes_X7_bring : GoodIn wsX7_notes wsX7_bring := goodIn_r _ [7] (by decide +kernel) (by decide +kernel)
set_option maxRecDepth 20000 in
theorem gX7_notes_X7_bring : GoodIn wsX7_notes (va_wsS RX7 161 yX7_bring wsX7_bring) := goodIn_app (goodIn_of _ (by decide +kernel)) ggX7_notes_X7_bring
theorem dX7_notes_0 : decode cX7_notes 0 = .ok (.aload_n 0, 1) := by decide +kernel
theorem dX7_notes_1 : decode cX7_notes 1 = .ok (.getfield 152, 3) := by decide +kernel
theorem dX7_notes_4 : decode cX7_notes 4 = .ok (.bipush 6, 2) := by decide +kernel
theorem dX7_notes_6 : decode cX7_notes 6 = .ok (.if_icmp .ne 31, 3) := by decide +kernel
theorem dX7_notes_9 : decode cX7_notes 9 = .ok (.aload_n 0, 1) := by decide +kernel
theorem dX7_notes_10 : decode cX7_notes 10 = .ok (.getfield 13, 3) := by decide +kernel
theorem dX7_notes_13 : decode cX7_notes 13 = .ok (.sipush 1025, 3) := by decide +kernel
theorem dX7_notes_16 : decode cX7_notes 16 = .ok (.aload_n 0, 1) := by decide +kernel
theorem dX7_notes_17 : decode cX7_notes 17 = .ok (.getfield 13, 3) := by decide +kernel
theorem dX7_notes_20 : decode cX7_notes 20 = .ok (.iconst 0, 1) := by decide +kernel
theorem dX7_notes_21 : decode cX7_notes 21 = .ok (.sipush 5125, 3) := by decide +kernel
theorem dX7_notes_24 : decode cX7_notes 24 = .ok (.invokestatic 161, 3) := by decide +kernel
theorem dX7_notes_27 : decode cX7_notes 27 = .ok (.aload_n 0, 1) := by decide +kernel
theorem dX7_notes_28 : decode cX7_notes 28 = .ok (.dup, 1) := by decide +kernel
theorem dX7_notes_29 : decode cX7_notes 29 = .ok (.getfield 152, 3) := by decide +kernel
theorem dX7_notes_32 : decode cX7_notes 32 = .ok (.iconst 1, 1) := by decide +kernel
theorem dX7_notes_33 : decode cX7_notes 33 = .ok (.isub, 1) := by decide +kernel
theorem dX7_notes_34 : decode cX7_notes 34 = .ok (.putfield 152, 3) := by decide +kernel
theorem dX7_notes_37 : decode cX7_notes 37 = .ok (.aload_n 0, 1) := by decide +kernel
theorem dX7_notes_38 : decode cX7_notes 38 = .ok (.getfield 7, 3) := by decide +kernel
theorem dX7_notes_41 : decode cX7_notes 41 = .ok (.iconst 0, 1) := by decide +kernel
theorem dX7_notes_42 : decode cX7_notes 42 = .ok (.aload_n 0, 1) := by decide +kernel
theorem dX7_notes_43 : decode cX7_notes 43 = .ok (.getfield 13, 3) := by decide +kernel
theorem dX7_notes_46 : decode cX7_notes 46 = .ok (.sipush 1025, 3) := by decide +kernel
theorem dX7_notes_49 : decode cX7_notes 49 = .ok (.aload_n 0, 1) := by decide +kernel
theorem dX7_notes_50 : decode cX7_notes 50 = .ok (.getfield 152, 3) := by decide +kernel
theorem dX7_notes_53 : decode cX7_notes 53 = .ok (.imul, 1) := by decide +kernel
theorem dX7_notes_54 : decode cX7_notes 54 = .ok (.sipush 1025, 3) := by decide +kernel
theorem dX7_notes_57 : decode cX7_notes 57 = .ok (.invokestatic 161, 3) := by decide +kernel
theorem dX7_notes_60 : decode cX7_notes 60 = .ok (.aload_n 0, 1) := by decide +kernel
theorem dX7_notes_61 : decode cX7_notes 61 = .ok (.dup, 1) := by decide +kernel
theorem dX7_notes_62 : decode cX7_notes 62 = .ok (.getfield 152, 3) := by decide +kernel
theorem dX7_notes_65 : decode cX7_notes 65 = .ok (.iconst 1, 1) := by decide +kernel
theorem dX7_notes_66 : decode cX7_notes 66 = .ok (.iadd, 1) := by decide +kernel
theorem dX7_notes_67 : decode cX7_notes 67 = .ok (.putfield 152, 3) := by decide +kernel
theorem dX7_notes_70 : decode cX7_notes 70 = .ok (.return_, 1) := by decide +kernel
