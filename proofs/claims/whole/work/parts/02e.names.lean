set_option maxRecDepth 20000 in
theorem ggX7_tell_X7_isPrefix : GoodIn wsX7_tell wsX7_isPrefix := goodIn_r _ [6, 7, 8, 9, 5, 10] (by decide +kernel) (by decide +kernel)
set_option maxRecDepth 20000 in
theorem gX7_tell_X7_isPrefix : GoodIn wsX7_tell (va_wsS RX7 101 yX7_isPrefix wsX7_isPrefix) := goodIn_app (goodIn_of _ (by decide +kernel)) ggX7_tell_X7_isPrefix
set_option maxRecDepth 20000 in
theorem ggX7_tell_X7_in : GoodIn wsX7_tell wsX7_in := goodIn_r _ [10] (by decide +kernel) (by decide +kernel)
set_option maxRecDepth 20000 in
theorem gX7_tell_X7_in : GoodIn wsX7_tell (va_wsS RX7 90 yX7_in wsX7_in) := goodIn_app (goodIn_of _ (by decide +kernel)) ggX7_tell_X7_in
set_option maxRecDepth 20000 in
theorem ggX7_tell_X7_many : GoodIn wsX7_tell wsX7_many := goodIn_r _ [13] (by decide +kernel) (by decide +kernel)
set_option maxRecDepth 20000 in
theorem gX7_tell_X7_many : GoodIn wsX7_tell (va_wsS RX7 138 yX7_many wsX7_many) := goodIn_app (goodIn_of _ (by decide +kernel)) ggX7_tell_X7_many
set_option maxRecDepth 20000 in
theorem ggX7_tell_X7_notes : GoodIn wsX7_tell wsX7_notes := goodIn_r _ [17, 18, 19, 2, 20, 21, 5, 22, 23, 24, 25, 26, 27, 28, 29, 30, 31, 32, 33, 34, 35, 36, 37, 38, 39, 40] (by decide +kernel) (by decide +kernel)
set_option maxRecDepth 20000 in
theorem gX7_tell_X7_notes : GoodIn wsX7_tell (wsV RX7 165 RX7 yX7_notes wsX7_notes) := goodIn_app (goodIn_of _ (by decide +kernel)) ggX7_tell_X7_notes
theorem dX7_tell_0 : decode cX7_tell 0 = .ok (.iload_n 1, 1) := by decide +kernel
theorem dX7_tell_1 : decode cX7_tell 1 = .ok (.invokestatic 101, 3) := by decide +kernel
theorem dX7_tell_4 : decode cX7_tell 4 = .ok (.ifCond .eq 15, 3) := by decide +kernel
theorem dX7_tell_7 : decode cX7_tell 7 = .ok (.iload_n 2, 1) := by decide +kernel
theorem dX7_tell_8 : decode cX7_tell 8 = .ok (.i2l, 1) := by decide +kernel
theorem dX7_tell_9 : decode cX7_tell 9 = .ok (.lconst 0, 1) := by decide +kernel
theorem dX7_tell_10 : decode cX7_tell 10 = .ok (.ldc2_w 116, 3) := by decide +kernel
theorem dX7_tell_13 : decode cX7_tell 13 = .ok (.invokestatic 90, 3) := by decide +kernel
theorem dX7_tell_16 : decode cX7_tell 16 = .ok (.ifCond .ne 5, 3) := by decide +kernel
theorem dX7_tell_19 : decode cX7_tell 19 = .ok (.iconst (-1), 1) := by decide +kernel
theorem dX7_tell_20 : decode cX7_tell 20 = .ok (.ireturn, 1) := by decide +kernel
theorem dX7_tell_21 : decode cX7_tell 21 = .ok (.aload_n 0, 1) := by decide +kernel
theorem dX7_tell_22 : decode cX7_tell 22 = .ok (.getfield 7, 3) := by decide +kernel
theorem dX7_tell_25 : decode cX7_tell 25 = .ok (.iconst 0, 1) := by decide +kernel
theorem dX7_tell_26 : decode cX7_tell 26 = .ok (.iload_n 1, 1) := by decide +kernel
theorem dX7_tell_27 : decode cX7_tell 27 = .ok (.iadd, 1) := by decide +kernel
theorem dX7_tell_28 : decode cX7_tell 28 = .ok (.iaload, 1) := by decide +kernel
theorem dX7_tell_29 : decode cX7_tell 29 = .ok (.istore_n 3, 1) := by decide +kernel
theorem dX7_tell_30 : decode cX7_tell 30 = .ok (.iload_n 3, 1) := by decide +kernel
theorem dX7_tell_31 : decode cX7_tell 31 = .ok (.iload_n 2, 1) := by decide +kernel
theorem dX7_tell_32 : decode cX7_tell 32 = .ok (.if_icmp .ne 6, 3) := by decide +kernel
theorem dX7_tell_35 : decode cX7_tell 35 = .ok (.bipush (-2), 2) := by decide +kernel
theorem dX7_tell_37 : decode cX7_tell 37 = .ok (.ireturn, 1) := by decide +kernel
theorem dX7_tell_38 : decode cX7_tell 38 = .ok (.iload_n 3, 1) := by decide +kernel
theorem dX7_tell_39 : decode cX7_tell 39 = .ok (.bipush 8, 2) := by decide +kernel
theorem dX7_tell_41 : decode cX7_tell 41 = .ok (.if_icmp .ne 19, 3) := by decide +kernel
theorem dX7_tell_44 : decode cX7_tell 44 = .ok (.aload_n 0, 1) := by decide +kernel
theorem dX7_tell_45 : decode cX7_tell 45 = .ok (.getfield 7, 3) := by decide +kernel
theorem dX7_tell_48 : decode cX7_tell 48 = .ok (.iconst 0, 1) := by decide +kernel
theorem dX7_tell_49 : decode cX7_tell 49 = .ok (.invokestatic 138, 3) := by decide +kernel
theorem dX7_tell_52 : decode cX7_tell 52 = .ok (.bipush 40, 2) := by decide +kernel
theorem dX7_tell_54 : decode cX7_tell 54 = .ok (.if_icmp .ne 6, 3) := by decide +kernel
theorem dX7_tell_57 : decode cX7_tell 57 = .ok (.bipush (-3), 2) := by decide +kernel
theorem dX7_tell_59 : decode cX7_tell 59 = .ok (.ireturn, 1) := by decide +kernel
theorem dX7_tell_60 : decode cX7_tell 60 = .ok (.aload_n 0, 1) := by decide +kernel
theorem dX7_tell_61 : decode cX7_tell 61 = .ok (.invokevirtual 165, 3) := by decide +kernel
theorem dX7_tell_64 : decode cX7_tell 64 = .ok (.aload_n 0, 1) := by decide +kernel
theorem dX7_tell_65 : decode cX7_tell 65 = .ok (.getfield 7, 3) := by decide +kernel
theorem dX7_tell_68 : decode cX7_tell 68 = .ok (.iconst 0, 1) := by decide +kernel
theorem dX7_tell_69 : decode cX7_tell 69 = .ok (.iload_n 1, 1) := by decide +kernel
theorem dX7_tell_70 : decode cX7_tell 70 = .ok (.iadd, 1) := by decide +kernel
theorem dX7_tell_71 : decode cX7_tell 71 = .ok (.iload_n 2, 1) := by decide +kernel
theorem dX7_tell_72 : decode cX7_tell 72 = .ok (.iastore, 1) := by decide +kernel
theorem dX7_tell_73 : decode cX7_tell 73 = .ok (.iload_n 3, 1) := by decide +kernel
theorem dX7_tell_74 : decode cX7_tell 74 = .ok (.ireturn, 1) := by decide +kernel
set_option maxRecDepth 20000 in
theorem ggX7_out_X7_isPrefix : GoodIn wsX7_out wsX7_isPrefix := goodIn_r _ [5, 6, 7, 8, 4, 9] (by decide +kernel) (by decide +kernel)
set_option maxRecDepth 20000 in
theorem gX7_out_X7_isPrefix : GoodIn wsX7_out (va_wsS RX7 101 yX7_isPrefix wsX7_isPrefix) := goodIn_app (goodIn_of _ (by decide +kernel)) ggX7_out_X7_isPrefix
set_option maxRecDepth 20000 in
theorem ggX7_out_X7_notes : GoodIn wsX7_out wsX7_notes := goodIn_r _ [13, 14, 15, 1, 16, 17, 4, 18, 19, 20, 21, 22, 23, 24, 25, 26, 27, 28, 29, 30, 31, 32, 33, 34, 35, 36] (by decide +kernel) (by decide +kernel)
set_option maxRecDepth 20000 in
theorem gX7_out_X7_notes : GoodIn wsX7_out (wsV RX7 165 RX7 yX7_notes wsX7_notes) := goodIn_app (goodIn_of _ (by decide +kernel)) ggX7_out_X7_notes
theorem dX7_out_0 : decode cX7_out 0 = .ok (.iload_n 1, 1) := by decide +kernel
theorem dX7_out_1 : decode cX7_out 1 = .ok (.invokestatic 101, 3) := by decide +kernel
theorem dX7_out_4 : decode cX7_out 4 = .ok (.ifCond .ne 5, 3) := by decide +kernel
theorem dX7_out_7 : decode cX7_out 7 = .ok (.iconst (-1), 1) := by decide +kernel
theorem dX7_out_8 : decode cX7_out 8 = .ok (.ireturn, 1) := by decide +kernel
theorem dX7_out_9 : decode cX7_out 9 = .ok (.aload_n 0, 1) := by decide +kernel
theorem dX7_out_10 : decode cX7_out 10 = .ok (.getfield 7, 3) := by decide +kernel
theorem dX7_out_13 : decode cX7_out 13 = .ok (.iconst 0, 1) := by decide +kernel
theorem dX7_out_14 : decode cX7_out 14 = .ok (.iload_n 1, 1) := by decide +kernel
theorem dX7_out_15 : decode cX7_out 15 = .ok (.iadd, 1) := by decide +kernel
theorem dX7_out_16 : decode cX7_out 16 = .ok (.iaload, 1) := by decide +kernel
theorem dX7_out_17 : decode cX7_out 17 = .ok (.istore_n 2, 1) := by decide +kernel
theorem dX7_out_18 : decode cX7_out 18 = .ok (.iload_n 2, 1) := by decide +kernel
theorem dX7_out_19 : decode cX7_out 19 = .ok (.bipush 8, 2) := by decide +kernel
theorem dX7_out_21 : decode cX7_out 21 = .ok (.if_icmp .ne 6, 3) := by decide +kernel
theorem dX7_out_24 : decode cX7_out 24 = .ok (.bipush (-4), 2) := by decide +kernel
theorem dX7_out_26 : decode cX7_out 26 = .ok (.ireturn, 1) := by decide +kernel
theorem dX7_out_27 : decode cX7_out 27 = .ok (.aload_n 0, 1) := by decide +kernel
theorem dX7_out_28 : decode cX7_out 28 = .ok (.invokevirtual 165, 3) := by decide +kernel
theorem dX7_out_31 : decode cX7_out 31 = .ok (.aload_n 0, 1) := by decide +kernel
theorem dX7_out_32 : decode cX7_out 32 = .ok (.getfield 7, 3) := by decide +kernel
theorem dX7_out_35 : decode cX7_out 35 = .ok (.iconst 0, 1) := by decide +kernel
theorem dX7_out_36 : decode cX7_out 36 = .ok (.iload_n 1, 1) := by decide +kernel
theorem dX7_out_37 : decode cX7_out 37 = .ok (.iadd, 1) := by decide +kernel
theorem dX7_out_38 : decode cX7_out 38 = .ok (.bipush 8, 2) := by decide +kernel
theorem dX7_out_40 : decode cX7_out 40 = .ok (.iastore, 1) := by decide +kernel
theorem dX7_out_41 : decode cX7_out 41 = .ok (.iload_n 2, 1) := by decide +kernel
theorem dX7_out_42 : decode cX7_out 42 = .ok (.ireturn, 1) := by decide +kernel
set_option maxRecDepth 20000 in
theorem ggX7_rename_X7_in : GoodIn wsX7_rename wsX7_in := goodIn_r _ [6] (by decide +kernel) (by decide +kernel)
set_option maxRecDepth 20000 in
theorem gX7_rename_X7_in : GoodIn wsX7_rename (va_wsS RX7 90 yX7_in wsX7_in) := goodIn_app (goodIn_of _ (by decide +kernel)) ggX7_rename_X7_in
set_option maxRecDepth 20000 in
theorem ggX7_rename_X7_notes : GoodIn wsX7_rename wsX7_notes := goodIn_r _ [10, 11, 12, 2, 13, 14, 5, 15, 16, 17, 18, 19, 20, 21, 22, 23, 24, 25, 26, 27, 28, 29, 30, 31, 32, 33] (by decide +kernel) (by decide +kernel)
set_option maxRecDepth 20000 in
theorem gX7_rename_X7_notes : GoodIn wsX7_rename (wsV RX7 165 RX7 yX7_notes wsX7_notes) := goodIn_app (goodIn_of _ (by decide +kernel)) ggX7_rename_X7_notes
theorem dX7_rename_0 : decode cX7_rename 0 = .ok (.iload_n 1, 1) := by decide +kernel
theorem dX7_rename_1 : decode cX7_rename 1 = .ok (.i2l, 1) := by decide +kernel
theorem dX7_rename_2 : decode cX7_rename 2 = .ok (.lconst 0, 1) := by decide +kernel
theorem dX7_rename_3 : decode cX7_rename 3 = .ok (.ldc2_w 116, 3) := by decide +kernel
theorem dX7_rename_6 : decode cX7_rename 6 = .ok (.invokestatic 90, 3) := by decide +kernel
theorem dX7_rename_9 : decode cX7_rename 9 = .ok (.ifCond .eq 15, 3) := by decide +kernel
theorem dX7_rename_12 : decode cX7_rename 12 = .ok (.iload_n 2, 1) := by decide +kernel
theorem dX7_rename_13 : decode cX7_rename 13 = .ok (.i2l, 1) := by decide +kernel
theorem dX7_rename_14 : decode cX7_rename 14 = .ok (.lconst 0, 1) := by decide +kernel
theorem dX7_rename_15 : decode cX7_rename 15 = .ok (.ldc2_w 116, 3) := by decide +kernel
theorem dX7_rename_18 : decode cX7_rename 18 = .ok (.invokestatic 90, 3) := by decide +kernel
theorem dX7_rename_21 : decode cX7_rename 21 = .ok (.ifCond .ne 5, 3) := by decide +kernel
theorem dX7_rename_24 : decode cX7_rename 24 = .ok (.iconst (-1), 1) := by decide +kernel
theorem dX7_rename_25 : decode cX7_rename 25 = .ok (.ireturn, 1) := by decide +kernel
theorem dX7_rename_26 : decode cX7_rename 26 = .ok (.iload_n 1, 1) := by decide +kernel
theorem dX7_rename_27 : decode cX7_rename 27 = .ok (.iload_n 2, 1) := by decide +kernel
theorem dX7_rename_28 : decode cX7_rename 28 = .ok (.if_icmp .ne 6, 3) := by decide +kernel
theorem dX7_rename_31 : decode cX7_rename 31 = .ok (.bipush (-2), 2) := by decide +kernel
theorem dX7_rename_33 : decode cX7_rename 33 = .ok (.ireturn, 1) := by decide +kernel
theorem dX7_rename_34 : decode cX7_rename 34 = .ok (.iconst 0, 1) := by decide +kernel
theorem dX7_rename_35 : decode cX7_rename 35 = .ok (.istore_n 3, 1) := by decide +kernel
theorem dX7_rename_36 : decode cX7_rename 36 = .ok (.iconst 1, 1) := by decide +kernel
theorem dX7_rename_37 : decode cX7_rename 37 = .ok (.istore 4, 2) := by decide +kernel
theorem dX7_rename_39 : decode cX7_rename 39 = .ok (.iload 4, 2) := by decide +kernel
theorem dX7_rename_41 : decode cX7_rename 41 = .ok (.sipush 512, 3) := by decide +kernel
theorem dX7_rename_44 : decode cX7_rename 44 = .ok (.if_icmp .ge 30, 3) := by decide +kernel
theorem dX7_rename_47 : decode cX7_rename 47 = .ok (.iload_n 3, 1) := by decide +kernel
theorem dX7_rename_48 : decode cX7_rename 48 = .ok (.aload_n 0, 1) := by decide +kernel
theorem dX7_rename_49 : decode cX7_rename 49 = .ok (.getfield 7, 3) := by decide +kernel
theorem dX7_rename_52 : decode cX7_rename 52 = .ok (.iconst 0, 1) := by decide +kernel
theorem dX7_rename_53 : decode cX7_rename 53 = .ok (.iload 4, 2) := by decide +kernel
theorem dX7_rename_55 : decode cX7_rename 55 = .ok (.iadd, 1) := by decide +kernel
theorem dX7_rename_56 : decode cX7_rename 56 = .ok (.iaload, 1) := by decide +kernel
theorem dX7_rename_57 : decode cX7_rename 57 = .ok (.iload_n 1, 1) := by decide +kernel
theorem dX7_rename_58 : decode cX7_rename 58 = .ok (.if_icmp .ne 7, 3) := by decide +kernel
theorem dX7_rename_61 : decode cX7_rename 61 = .ok (.iconst 1, 1) := by decide +kernel
theorem dX7_rename_62 : decode cX7_rename 62 = .ok (.goto 4, 3) := by decide +kernel
theorem dX7_rename_65 : decode cX7_rename 65 = .ok (.iconst 0, 1) := by decide +kernel
theorem dX7_rename_66 : decode cX7_rename 66 = .ok (.iadd, 1) := by decide +kernel
theorem dX7_rename_67 : decode cX7_rename 67 = .ok (.istore_n 3, 1) := by decide +kernel
theorem dX7_rename_68 : decode cX7_rename 68 = .ok (.iinc 4 1, 3) := by decide +kernel
theorem dX7_rename_71 : decode cX7_rename 71 = .ok (.goto (-32), 3) := by decide +kernel
theorem dX7_rename_74 : decode cX7_rename 74 = .ok (.iload_n 3, 1) := by decide +kernel
theorem dX7_rename_75 : decode cX7_rename 75 = .ok (.ifCond .ne 6, 3) := by decide +kernel
theorem dX7_rename_78 : decode cX7_rename 78 = .ok (.bipush (-4), 2) := by decide +kernel
theorem dX7_rename_80 : decode cX7_rename 80 = .ok (.ireturn, 1) := by decide +kernel
theorem dX7_rename_81 : decode cX7_rename 81 = .ok (.aload_n 0, 1) := by decide +kernel
theorem dX7_rename_82 : decode cX7_rename 82 = .ok (.invokevirtual 165, 3) := by decide +kernel
theorem dX7_rename_85 : decode cX7_rename 85 = .ok (.iconst 1, 1) := by decide +kernel
theorem dX7_rename_86 : decode cX7_rename 86 = .ok (.istore 4, 2) := by decide +kernel
theorem dX7_rename_88 : decode cX7_rename 88 = .ok (.iload 4, 2) := by decide +kernel
theorem dX7_rename_90 : decode cX7_rename 90 = .ok (.sipush 512, 3) := by decide +kernel
theorem dX7_rename_93 : decode cX7_rename 93 = .ok (.if_icmp .ge 44, 3) := by decide +kernel
theorem dX7_rename_96 : decode cX7_rename 96 = .ok (.aload_n 0, 1) := by decide +kernel
theorem dX7_rename_97 : decode cX7_rename 97 = .ok (.getfield 7, 3) := by decide +kernel
theorem dX7_rename_100 : decode cX7_rename 100 = .ok (.iconst 0, 1) := by decide +kernel
theorem dX7_rename_101 : decode cX7_rename 101 = .ok (.iload 4, 2) := by decide +kernel
theorem dX7_rename_103 : decode cX7_rename 103 = .ok (.iadd, 1) := by decide +kernel
theorem dX7_rename_104 : decode cX7_rename 104 = .ok (.aload_n 0, 1) := by decide +kernel
theorem dX7_rename_105 : decode cX7_rename 105 = .ok (.getfield 7, 3) := by decide +kernel
theorem dX7_rename_108 : decode cX7_rename 108 = .ok (.iconst 0, 1) := by decide +kernel
theorem dX7_rename_109 : decode cX7_rename 109 = .ok (.iload 4, 2) := by decide +kernel
theorem dX7_rename_111 : decode cX7_rename 111 = .ok (.iadd, 1) := by decide +kernel
theorem dX7_rename_112 : decode cX7_rename 112 = .ok (.iaload, 1) := by decide +kernel
theorem dX7_rename_113 : decode cX7_rename 113 = .ok (.iload_n 1, 1) := by decide +kernel
theorem dX7_rename_114 : decode cX7_rename 114 = .ok (.if_icmp .ne 7, 3) := by decide +kernel
theorem dX7_rename_117 : decode cX7_rename 117 = .ok (.iload_n 2, 1) := by decide +kernel
theorem dX7_rename_118 : decode cX7_rename 118 = .ok (.goto 12, 3) := by decide +kernel
theorem dX7_rename_121 : decode cX7_rename 121 = .ok (.aload_n 0, 1) := by decide +kernel
theorem dX7_rename_122 : decode cX7_rename 122 = .ok (.getfield 7, 3) := by decide +kernel
theorem dX7_rename_125 : decode cX7_rename 125 = .ok (.iconst 0, 1) := by decide +kernel
theorem dX7_rename_126 : decode cX7_rename 126 = .ok (.iload 4, 2) := by decide +kernel
theorem dX7_rename_128 : decode cX7_rename 128 = .ok (.iadd, 1) := by decide +kernel
theorem dX7_rename_129 : decode cX7_rename 129 = .ok (.iaload, 1) := by decide +kernel
theorem dX7_rename_130 : decode cX7_rename 130 = .ok (.iastore, 1) := by decide +kernel
theorem dX7_rename_131 : decode cX7_rename 131 = .ok (.iinc 4 1, 3) := by decide +kernel
theorem dX7_rename_134 : decode cX7_rename 134 = .ok (.goto (-46), 3) := by decide +kernel
theorem dX7_rename_137 : decode cX7_rename 137 = .ok (.iload_n 3, 1) := by decide +kernel
theorem dX7_rename_138 : decode cX7_rename 138 = .ok (.ireturn, 1) := by decide +kernel
set_option maxRecDepth 20000 in
theorem ggX7_install_X7_lays : GoodIn wsX7_install wsX7_lays := goodIn_r _ [7, 8, 9, 10, 6, 11, 12, 2, 13, 14, 15, 16, 17, 18, 19, 20, 21, 22, 23, 24, 25, 26, 27, 28, 29, 30, 31, 1, 32, 33, 34, 35, 36, 37, 38, 39, 53, 54, 55, 56, 57, 58, 59, 60, 61, 62, 63, 64, 65, 66, 67, 68, 69, 70] (by decide +kernel) (by decide +kernel)
set_option maxRecDepth 20000 in
theorem gX7_install_X7_lays : GoodIn wsX7_install (wsV RX7 96 RX7 yX7_lays wsX7_lays) := goodIn_app (goodIn_of _ (by decide +kernel)) ggX7_install_X7_lays
set_option maxRecDepth 20000 in
theorem ggX7_install_X7_changes : GoodIn wsX7_install wsX7_changes := goodIn_r _ [43, 1, 2, 53, 54, 55, 56, 57, 58, 59, 60, 61, 62, 63, 64, 65, 66, 67, 68, 69, 70] (by decide +kernel) (by decide +kernel)
set_option maxRecDepth 20000 in
theorem gX7_install_X7_changes : GoodIn wsX7_install (wsV RX7 142 RX7 yX7_changes wsX7_changes) := goodIn_app (goodIn_of _ (by decide +kernel)) ggX7_install_X7_changes
set_option maxRecDepth 20000 in
theorem ggX7_install_X7_notes : GoodIn wsX7_install wsX7_notes := goodIn_r _ [47, 48, 49, 2, 50, 51, 6, 52, 53, 54, 55, 56, 57, 58, 59, 60, 61, 62, 63, 64, 65, 66, 67, 68, 69, 70] (by decide +kernel) (by decide +kernel)
set_option maxRecDepth 20000 in
theorem gX7_install_X7_notes : GoodIn wsX7_install (wsV RX7 165 RX7 yX7_notes wsX7_notes) := goodIn_app (goodIn_of _ (by decide +kernel)) ggX7_install_X7_notes
set_option maxRecDepth 20000 in
theorem ggX7_install_X7_bring : GoodIn wsX7_install wsX7_bring := goodIn_r _ [52] (by decide +kernel) (by decide +kernel)
set_option maxRecDepth 20000 in
theorem gX7_install_X7_bring : GoodIn wsX7_install (va_wsS RX7 161 yX7_bring wsX7_bring) := goodIn_app (goodIn_of _ (by decide +kernel)) ggX7_install_X7_bring
theorem dX7_install_0 : decode cX7_install 0 = .ok (.aload_n 0, 1) := by decide +kernel
theorem dX7_install_1 : decode cX7_install 1 = .ok (.invokevirtual 96, 3) := by decide +kernel
theorem dX7_install_4 : decode cX7_install 4 = .ok (.aload_n 0, 1) := by decide +kernel
theorem dX7_install_5 : decode cX7_install 5 = .ok (.invokevirtual 142, 3) := by decide +kernel
theorem dX7_install_8 : decode cX7_install 8 = .ok (.istore_n 1, 1) := by decide +kernel
theorem dX7_install_9 : decode cX7_install 9 = .ok (.iload_n 1, 1) := by decide +kernel
theorem dX7_install_10 : decode cX7_install 10 = .ok (.ifCond .ne 6, 3) := by decide +kernel
theorem dX7_install_13 : decode cX7_install 13 = .ok (.bipush (-2), 2) := by decide +kernel
theorem dX7_install_15 : decode cX7_install 15 = .ok (.ireturn, 1) := by decide +kernel
theorem dX7_install_16 : decode cX7_install 16 = .ok (.aload_n 0, 1) := by decide +kernel
theorem dX7_install_17 : decode cX7_install 17 = .ok (.invokevirtual 165, 3) := by decide +kernel
theorem dX7_install_20 : decode cX7_install 20 = .ok (.aload_n 0, 1) := by decide +kernel
theorem dX7_install_21 : decode cX7_install 21 = .ok (.getfield 39, 3) := by decide +kernel
theorem dX7_install_24 : decode cX7_install 24 = .ok (.iconst 1, 1) := by decide +kernel
theorem dX7_install_25 : decode cX7_install 25 = .ok (.aload_n 0, 1) := by decide +kernel
theorem dX7_install_26 : decode cX7_install 26 = .ok (.getfield 7, 3) := by decide +kernel
theorem dX7_install_29 : decode cX7_install 29 = .ok (.sipush 513, 3) := by decide +kernel
theorem dX7_install_32 : decode cX7_install 32 = .ok (.sipush 511, 3) := by decide +kernel
theorem dX7_install_35 : decode cX7_install 35 = .ok (.invokestatic 161, 3) := by decide +kernel
theorem dX7_install_38 : decode cX7_install 38 = .ok (.iload_n 1, 1) := by decide +kernel
theorem dX7_install_39 : decode cX7_install 39 = .ok (.ireturn, 1) := by decide +kernel
set_option maxRecDepth 20000 in
theorem ggX7_type_X7_in : GoodIn wsX7_type wsX7_in := goodIn_r _ [8] (by decide +kernel) (by decide +kernel)
set_option maxRecDepth 20000 in
theorem gX7_type_X7_in : GoodIn wsX7_type (va_wsS RX7 90 yX7_in wsX7_in) := goodIn_app (goodIn_of _ (by decide +kernel)) ggX7_type_X7_in
theorem dX7_type_0 : decode cX7_type 0 = .ok (.iload_n 1, 1) := by decide +kernel
theorem dX7_type_1 : decode cX7_type 1 = .ok (.i2l, 1) := by decide +kernel
theorem dX7_type_2 : decode cX7_type 2 = .ok (.ldc2_w 168, 3) := by decide +kernel
theorem dX7_type_5 : decode cX7_type 5 = .ok (.ldc2_w 170, 3) := by decide +kernel
theorem dX7_type_8 : decode cX7_type 8 = .ok (.invokestatic 90, 3) := by decide +kernel
theorem dX7_type_11 : decode cX7_type 11 = .ok (.ifCond .ne 5, 3) := by decide +kernel
theorem dX7_type_14 : decode cX7_type 14 = .ok (.iconst (-1), 1) := by decide +kernel
theorem dX7_type_15 : decode cX7_type 15 = .ok (.ireturn, 1) := by decide +kernel
theorem dX7_type_16 : decode cX7_type 16 = .ok (.aload_n 0, 1) := by decide +kernel
theorem dX7_type_17 : decode cX7_type 17 = .ok (.getfield 172, 3) := by decide +kernel
theorem dX7_type_20 : decode cX7_type 20 = .ok (.bipush 100, 2) := by decide +kernel
theorem dX7_type_22 : decode cX7_type 22 = .ok (.if_icmp .ne 6, 3) := by decide +kernel
theorem dX7_type_25 : decode cX7_type 25 = .ok (.bipush (-3), 2) := by decide +kernel
theorem dX7_type_27 : decode cX7_type 27 = .ok (.ireturn, 1) := by decide +kernel
theorem dX7_type_28 : decode cX7_type 28 = .ok (.aload_n 0, 1) := by decide +kernel
theorem dX7_type_29 : decode cX7_type 29 = .ok (.getfield 26, 3) := by decide +kernel
theorem dX7_type_32 : decode cX7_type 32 = .ok (.aload_n 0, 1) := by decide +kernel
theorem dX7_type_33 : decode cX7_type 33 = .ok (.getfield 172, 3) := by decide +kernel
theorem dX7_type_36 : decode cX7_type 36 = .ok (.iload_n 1, 1) := by decide +kernel
theorem dX7_type_37 : decode cX7_type 37 = .ok (.iastore, 1) := by decide +kernel
theorem dX7_type_38 : decode cX7_type 38 = .ok (.aload_n 0, 1) := by decide +kernel
theorem dX7_type_39 : decode cX7_type 39 = .ok (.dup, 1) := by decide +kernel
theorem dX7_type_40 : decode cX7_type 40 = .ok (.getfield 172, 3) := by decide +kernel
theorem dX7_type_43 : decode cX7_type 43 = .ok (.iconst 1, 1) := by decide +kernel
theorem dX7_type_44 : decode cX7_type 44 = .ok (.iadd, 1) := by decide +kernel
theorem dX7_type_45 : decode cX7_type 45 = .ok (.putfield 172, 3) := by decide +kernel
theorem dX7_type_48 : decode cX7_type 48 = .ok (.aload_n 0, 1) := by decide +kernel
theorem dX7_type_49 : decode cX7_type 49 = .ok (.getfield 172, 3) := by decide +kernel
theorem dX7_type_52 : decode cX7_type 52 = .ok (.ireturn, 1) := by decide +kernel
theorem dX7_looks_0 : decode cX7_looks 0 = .ok (.aload_n 0, 1) := by decide +kernel
theorem dX7_looks_1 : decode cX7_looks 1 = .ok (.getfield 175, 3) := by decide +kernel
theorem dX7_looks_4 : decode cX7_looks 4 = .ok (.aload_n 0, 1) := by decide +kernel
theorem dX7_looks_5 : decode cX7_looks 5 = .ok (.getfield 172, 3) := by decide +kernel
theorem dX7_looks_8 : decode cX7_looks 8 = .ok (.if_icmp .ge 30, 3) := by decide +kernel
theorem dX7_looks_11 : decode cX7_looks 11 = .ok (.aload_n 0, 1) := by decide +kernel
theorem dX7_looks_12 : decode cX7_looks 12 = .ok (.getfield 26, 3) := by decide +kernel
theorem dX7_looks_15 : decode cX7_looks 15 = .ok (.aload_n 0, 1) := by decide +kernel
theorem dX7_looks_16 : decode cX7_looks 16 = .ok (.getfield 175, 3) := by decide +kernel
theorem dX7_looks_19 : decode cX7_looks 19 = .ok (.iaload, 1) := by decide +kernel
theorem dX7_looks_20 : decode cX7_looks 20 = .ok (.bipush 32, 2) := by decide +kernel
theorem dX7_looks_22 : decode cX7_looks 22 = .ok (.if_icmp .ne 16, 3) := by decide +kernel
theorem dX7_looks_25 : decode cX7_looks 25 = .ok (.aload_n 0, 1) := by decide +kernel
theorem dX7_looks_26 : decode cX7_looks 26 = .ok (.dup, 1) := by decide +kernel
theorem dX7_looks_27 : decode cX7_looks 27 = .ok (.getfield 175, 3) := by decide +kernel
theorem dX7_looks_30 : decode cX7_looks 30 = .ok (.iconst 1, 1) := by decide +kernel
theorem dX7_looks_31 : decode cX7_looks 31 = .ok (.iadd, 1) := by decide +kernel
theorem dX7_looks_32 : decode cX7_looks 32 = .ok (.putfield 175, 3) := by decide +kernel
theorem dX7_looks_35 : decode cX7_looks 35 = .ok (.goto (-35), 3) := by decide +kernel
theorem dX7_looks_38 : decode cX7_looks 38 = .ok (.aload_n 0, 1) := by decide +kernel
theorem dX7_looks_39 : decode cX7_looks 39 = .ok (.getfield 175, 3) := by decide +kernel
theorem dX7_looks_42 : decode cX7_looks 42 = .ok (.aload_n 0, 1) := by decide +kernel
theorem dX7_looks_43 : decode cX7_looks 43 = .ok (.getfield 172, 3) := by decide +kernel
theorem dX7_looks_46 : decode cX7_looks 46 = .ok (.if_icmp .ge 15, 3) := by decide +kernel
theorem dX7_looks_49 : decode cX7_looks 49 = .ok (.aload_n 0, 1) := by decide +kernel
theorem dX7_looks_50 : decode cX7_looks 50 = .ok (.getfield 26, 3) := by decide +kernel
theorem dX7_looks_53 : decode cX7_looks 53 = .ok (.aload_n 0, 1) := by decide +kernel
theorem dX7_looks_54 : decode cX7_looks 54 = .ok (.getfield 175, 3) := by decide +kernel
theorem dX7_looks_57 : decode cX7_looks 57 = .ok (.iaload, 1) := by decide +kernel
theorem dX7_looks_58 : decode cX7_looks 58 = .ok (.goto 4, 3) := by decide +kernel
theorem dX7_looks_61 : decode cX7_looks 61 = .ok (.iconst 0, 1) := by decide +kernel
theorem dX7_looks_62 : decode cX7_looks 62 = .ok (.ireturn, 1) := by decide +kernel
set_option maxRecDepth 20000 in
theorem ggX7_readsEntry_X7_looks : GoodIn wsX7_readsEntry wsX7_looks := goodIn_r _ [9, 1, 10, 11, 15, 16, 17, 18, 19, 20, 21, 22, 23, 24, 25, 26, 27, 28, 29, 30, 31, 32] (by decide +kernel) (by decide +kernel)
set_option maxRecDepth 20000 in
theorem gX7_readsEntry_X7_looks : GoodIn wsX7_readsEntry (wsV RX7 178 RX7 yX7_looks wsX7_looks) := goodIn_app (goodIn_of _ (by decide +kernel)) ggX7_readsEntry_X7_looks
set_option maxRecDepth 20000 in
theorem ggX7_readsEntry_X7_in : GoodIn wsX7_readsEntry wsX7_in := goodIn_r _ [14] (by decide +kernel) (by decide +kernel)
set_option maxRecDepth 20000 in
theorem gX7_readsEntry_X7_in : GoodIn wsX7_readsEntry (va_wsS RX7 90 yX7_in wsX7_in) := goodIn_app (goodIn_of _ (by decide +kernel)) ggX7_readsEntry_X7_in
theorem dX7_readsEntry_0 : decode cX7_readsEntry 0 = .ok (.aload_n 0, 1) := by decide +kernel
theorem dX7_readsEntry_1 : decode cX7_readsEntry 1 = .ok (.invokevirtual 178, 3) := by decide +kernel
theorem dX7_readsEntry_4 : decode cX7_readsEntry 4 = .ok (.pop, 1) := by decide +kernel
theorem dX7_readsEntry_5 : decode cX7_readsEntry 5 = .ok (.aload_n 0, 1) := by decide +kernel
theorem dX7_readsEntry_6 : decode cX7_readsEntry 6 = .ok (.getfield 175, 3) := by decide +kernel
theorem dX7_readsEntry_9 : decode cX7_readsEntry 9 = .ok (.istore_n 1, 1) := by decide +kernel
theorem dX7_readsEntry_10 : decode cX7_readsEntry 10 = .ok (.iconst 1, 1) := by decide +kernel
theorem dX7_readsEntry_11 : decode cX7_readsEntry 11 = .ok (.istore_n 2, 1) := by decide +kernel
theorem dX7_readsEntry_12 : decode cX7_readsEntry 12 = .ok (.iload_n 2, 1) := by decide +kernel
theorem dX7_readsEntry_13 : decode cX7_readsEntry 13 = .ok (.sipush 256, 3) := by decide +kernel
theorem dX7_readsEntry_16 : decode cX7_readsEntry 16 = .ok (.if_icmp .ge 46, 3) := by decide +kernel
theorem dX7_readsEntry_19 : decode cX7_readsEntry 19 = .ok (.aload_n 0, 1) := by decide +kernel
theorem dX7_readsEntry_20 : decode cX7_readsEntry 20 = .ok (.invokevirtual 178, 3) := by decide +kernel
theorem dX7_readsEntry_23 : decode cX7_readsEntry 23 = .ok (.bipush 48, 2) := by decide +kernel
theorem dX7_readsEntry_25 : decode cX7_readsEntry 25 = .ok (.if_icmp .eq 12, 3) := by decide +kernel
theorem dX7_readsEntry_28 : decode cX7_readsEntry 28 = .ok (.aload_n 0, 1) := by decide +kernel
theorem dX7_readsEntry_29 : decode cX7_readsEntry 29 = .ok (.invokevirtual 178, 3) := by decide +kernel
theorem dX7_readsEntry_32 : decode cX7_readsEntry 32 = .ok (.bipush 49, 2) := by decide +kernel
theorem dX7_readsEntry_34 : decode cX7_readsEntry 34 = .ok (.if_icmp .ne 28, 3) := by decide +kernel
theorem dX7_readsEntry_37 : decode cX7_readsEntry 37 = .ok (.iconst 2, 1) := by decide +kernel
theorem dX7_readsEntry_38 : decode cX7_readsEntry 38 = .ok (.iload_n 2, 1) := by decide +kernel
theorem dX7_readsEntry_39 : decode cX7_readsEntry 39 = .ok (.imul, 1) := by decide +kernel
theorem dX7_readsEntry_40 : decode cX7_readsEntry 40 = .ok (.aload_n 0, 1) := by decide +kernel
theorem dX7_readsEntry_41 : decode cX7_readsEntry 41 = .ok (.invokevirtual 178, 3) := by decide +kernel
theorem dX7_readsEntry_44 : decode cX7_readsEntry 44 = .ok (.iadd, 1) := by decide +kernel
theorem dX7_readsEntry_45 : decode cX7_readsEntry 45 = .ok (.bipush 48, 2) := by decide +kernel
theorem dX7_readsEntry_47 : decode cX7_readsEntry 47 = .ok (.isub, 1) := by decide +kernel
theorem dX7_readsEntry_48 : decode cX7_readsEntry 48 = .ok (.istore_n 2, 1) := by decide +kernel
theorem dX7_readsEntry_49 : decode cX7_readsEntry 49 = .ok (.aload_n 0, 1) := by decide +kernel
theorem dX7_readsEntry_50 : decode cX7_readsEntry 50 = .ok (.dup, 1) := by decide +kernel
theorem dX7_readsEntry_51 : decode cX7_readsEntry 51 = .ok (.getfield 175, 3) := by decide +kernel
theorem dX7_readsEntry_54 : decode cX7_readsEntry 54 = .ok (.iconst 1, 1) := by decide +kernel
theorem dX7_readsEntry_55 : decode cX7_readsEntry 55 = .ok (.iadd, 1) := by decide +kernel
theorem dX7_readsEntry_56 : decode cX7_readsEntry 56 = .ok (.putfield 175, 3) := by decide +kernel
theorem dX7_readsEntry_59 : decode cX7_readsEntry 59 = .ok (.goto (-47), 3) := by decide +kernel
theorem dX7_readsEntry_62 : decode cX7_readsEntry 62 = .ok (.iload_n 2, 1) := by decide +kernel
theorem dX7_readsEntry_63 : decode cX7_readsEntry 63 = .ok (.sipush 256, 3) := by decide +kernel
theorem dX7_readsEntry_66 : decode cX7_readsEntry 66 = .ok (.if_icmp .ge 24, 3) := by decide +kernel
theorem dX7_readsEntry_69 : decode cX7_readsEntry 69 = .ok (.aload_n 0, 1) := by decide +kernel
theorem dX7_readsEntry_70 : decode cX7_readsEntry 70 = .ok (.invokevirtual 178, 3) := by decide +kernel
theorem dX7_readsEntry_73 : decode cX7_readsEntry 73 = .ok (.bipush 42, 2) := by decide +kernel
theorem dX7_readsEntry_75 : decode cX7_readsEntry 75 = .ok (.if_icmp .eq 5, 3) := by decide +kernel
theorem dX7_readsEntry_78 : decode cX7_readsEntry 78 = .ok (.iconst 0, 1) := by decide +kernel
theorem dX7_readsEntry_79 : decode cX7_readsEntry 79 = .ok (.ireturn, 1) := by decide +kernel
theorem dX7_readsEntry_80 : decode cX7_readsEntry 80 = .ok (.aload_n 0, 1) := by decide +kernel
theorem dX7_readsEntry_81 : decode cX7_readsEntry 81 = .ok (.dup, 1) := by decide +kernel
theorem dX7_readsEntry_82 : decode cX7_readsEntry 82 = .ok (.getfield 175, 3) := by decide +kernel
theorem dX7_readsEntry_85 : decode cX7_readsEntry 85 = .ok (.iconst 1, 1) := by decide +kernel
theorem dX7_readsEntry_86 : decode cX7_readsEntry 86 = .ok (.iadd, 1) := by decide +kernel
theorem dX7_readsEntry_87 : decode cX7_readsEntry 87 = .ok (.putfield 175, 3) := by decide +kernel
theorem dX7_readsEntry_90 : decode cX7_readsEntry 90 = .ok (.aload_n 0, 1) := by decide +kernel
theorem dX7_readsEntry_91 : decode cX7_readsEntry 91 = .ok (.invokevirtual 178, 3) := by decide +kernel
theorem dX7_readsEntry_94 : decode cX7_readsEntry 94 = .ok (.bipush 58, 2) := by decide +kernel
theorem dX7_readsEntry_96 : decode cX7_readsEntry 96 = .ok (.if_icmp .eq 5, 3) := by decide +kernel
theorem dX7_readsEntry_99 : decode cX7_readsEntry 99 = .ok (.iconst 0, 1) := by decide +kernel
theorem dX7_readsEntry_100 : decode cX7_readsEntry 100 = .ok (.ireturn, 1) := by decide +kernel
theorem dX7_readsEntry_101 : decode cX7_readsEntry 101 = .ok (.aload_n 0, 1) := by decide +kernel
theorem dX7_readsEntry_102 : decode cX7_readsEntry 102 = .ok (.getfield 54, 3) := by decide +kernel
theorem dX7_readsEntry_105 : decode cX7_readsEntry 105 = .ok (.iload_n 2, 1) := by decide +kernel
theorem dX7_readsEntry_106 : decode cX7_readsEntry 106 = .ok (.iaload, 1) := by decide +kernel
theorem dX7_readsEntry_107 : decode cX7_readsEntry 107 = .ok (.bipush 8, 2) := by decide +kernel
theorem dX7_readsEntry_109 : decode cX7_readsEntry 109 = .ok (.if_icmp .eq 10, 3) := by decide +kernel
theorem dX7_readsEntry_112 : decode cX7_readsEntry 112 = .ok (.aload_n 0, 1) := by decide +kernel
theorem dX7_readsEntry_113 : decode cX7_readsEntry 113 = .ok (.iload_n 1, 1) := by decide +kernel
theorem dX7_readsEntry_114 : decode cX7_readsEntry 114 = .ok (.putfield 175, 3) := by decide +kernel
theorem dX7_readsEntry_117 : decode cX7_readsEntry 117 = .ok (.iconst 0, 1) := by decide +kernel
theorem dX7_readsEntry_118 : decode cX7_readsEntry 118 = .ok (.ireturn, 1) := by decide +kernel
theorem dX7_readsEntry_119 : decode cX7_readsEntry 119 = .ok (.aload_n 0, 1) := by decide +kernel
theorem dX7_readsEntry_120 : decode cX7_readsEntry 120 = .ok (.dup, 1) := by decide +kernel
theorem dX7_readsEntry_121 : decode cX7_readsEntry 121 = .ok (.getfield 175, 3) := by decide +kernel
theorem dX7_readsEntry_124 : decode cX7_readsEntry 124 = .ok (.iconst 1, 1) := by decide +kernel
theorem dX7_readsEntry_125 : decode cX7_readsEntry 125 = .ok (.iadd, 1) := by decide +kernel
theorem dX7_readsEntry_126 : decode cX7_readsEntry 126 = .ok (.putfield 175, 3) := by decide +kernel
theorem dX7_readsEntry_129 : decode cX7_readsEntry 129 = .ok (.aload_n 0, 1) := by decide +kernel
theorem dX7_readsEntry_130 : decode cX7_readsEntry 130 = .ok (.invokevirtual 178, 3) := by decide +kernel
theorem dX7_readsEntry_133 : decode cX7_readsEntry 133 = .ok (.i2l, 1) := by decide +kernel
theorem dX7_readsEntry_134 : decode cX7_readsEntry 134 = .ok (.ldc2_w 181, 3) := by decide +kernel
theorem dX7_readsEntry_137 : decode cX7_readsEntry 137 = .ok (.ldc2_w 183, 3) := by decide +kernel
theorem dX7_readsEntry_140 : decode cX7_readsEntry 140 = .ok (.invokestatic 90, 3) := by decide +kernel
theorem dX7_readsEntry_143 : decode cX7_readsEntry 143 = .ok (.ifCond .ne 5, 3) := by decide +kernel
theorem dX7_readsEntry_146 : decode cX7_readsEntry 146 = .ok (.iconst 0, 1) := by decide +kernel
theorem dX7_readsEntry_147 : decode cX7_readsEntry 147 = .ok (.ireturn, 1) := by decide +kernel
theorem dX7_readsEntry_148 : decode cX7_readsEntry 148 = .ok (.aload_n 0, 1) := by decide +kernel
theorem dX7_readsEntry_149 : decode cX7_readsEntry 149 = .ok (.getfield 54, 3) := by decide +kernel
theorem dX7_readsEntry_152 : decode cX7_readsEntry 152 = .ok (.iload_n 2, 1) := by decide +kernel
theorem dX7_readsEntry_153 : decode cX7_readsEntry 153 = .ok (.aload_n 0, 1) := by decide +kernel
theorem dX7_readsEntry_154 : decode cX7_readsEntry 154 = .ok (.invokevirtual 178, 3) := by decide +kernel
theorem dX7_readsEntry_157 : decode cX7_readsEntry 157 = .ok (.bipush 48, 2) := by decide +kernel
theorem dX7_readsEntry_159 : decode cX7_readsEntry 159 = .ok (.isub, 1) := by decide +kernel
theorem dX7_readsEntry_160 : decode cX7_readsEntry 160 = .ok (.iastore, 1) := by decide +kernel
theorem dX7_readsEntry_161 : decode cX7_readsEntry 161 = .ok (.aload_n 0, 1) := by decide +kernel
theorem dX7_readsEntry_162 : decode cX7_readsEntry 162 = .ok (.dup, 1) := by decide +kernel
theorem dX7_readsEntry_163 : decode cX7_readsEntry 163 = .ok (.getfield 175, 3) := by decide +kernel
theorem dX7_readsEntry_166 : decode cX7_readsEntry 166 = .ok (.iconst 1, 1) := by decide +kernel
theorem dX7_readsEntry_167 : decode cX7_readsEntry 167 = .ok (.iadd, 1) := by decide +kernel
theorem dX7_readsEntry_168 : decode cX7_readsEntry 168 = .ok (.putfield 175, 3) := by decide +kernel
theorem dX7_readsEntry_171 : decode cX7_readsEntry 171 = .ok (.iconst 1, 1) := by decide +kernel
theorem dX7_readsEntry_172 : decode cX7_readsEntry 172 = .ok (.ireturn, 1) := by decide +kernel
set_option maxRecDepth 20000 in
theorem ggX7_readsAll_X7_readsEntry : GoodIn wsX7_readsAll wsX7_readsEntry := goodIn_r _ [7, 1, 2, 8, 9, 10, 11, 12, 6, 13, 14, 15, 16, 17, 18, 19, 20, 21, 22, 23, 24, 25, 26, 27, 28, 29, 30, 31, 32, 33, 34, 35, 36] (by decide +kernel) (by decide +kernel)
set_option maxRecDepth 20000 in
theorem gX7_readsAll_X7_readsEntry : GoodIn wsX7_readsAll (wsV RX7 185 RX7 yX7_readsEntry wsX7_readsEntry) := goodIn_app (goodIn_of _ (by decide +kernel)) ggX7_readsAll_X7_readsEntry
set_option maxRecDepth 20000 in
theorem ggX7_readsAll_X7_looks : GoodIn wsX7_readsAll wsX7_looks := goodIn_r _ [13, 1, 14, 15, 19, 20, 21, 22, 23, 24, 25, 26, 27, 28, 29, 30, 31, 32, 33, 34, 35, 36] (by decide +kernel) (by decide +kernel)
set_option maxRecDepth 20000 in
theorem gX7_readsAll_X7_looks : GoodIn wsX7_readsAll (wsV RX7 178 RX7 yX7_looks wsX7_looks) := goodIn_app (goodIn_of _ (by decide +kernel)) ggX7_readsAll_X7_looks
theorem dX7_readsAll_0 : decode cX7_readsAll 0 = .ok (.aload_n 0, 1) := by decide +kernel
theorem dX7_readsAll_1 : decode cX7_readsAll 1 = .ok (.iconst 0, 1) := by decide +kernel
theorem dX7_readsAll_2 : decode cX7_readsAll 2 = .ok (.putfield 175, 3) := by decide +kernel
theorem dX7_readsAll_5 : decode cX7_readsAll 5 = .ok (.iconst 0, 1) := by decide +kernel
theorem dX7_readsAll_6 : decode cX7_readsAll 6 = .ok (.istore_n 1, 1) := by decide +kernel
theorem dX7_readsAll_7 : decode cX7_readsAll 7 = .ok (.iload_n 1, 1) := by decide +kernel
theorem dX7_readsAll_8 : decode cX7_readsAll 8 = .ok (.sipush 512, 3) := by decide +kernel
theorem dX7_readsAll_11 : decode cX7_readsAll 11 = .ok (.if_icmp .ge 17, 3) := by decide +kernel
theorem dX7_readsAll_14 : decode cX7_readsAll 14 = .ok (.aload_n 0, 1) := by decide +kernel
theorem dX7_readsAll_15 : decode cX7_readsAll 15 = .ok (.getfield 54, 3) := by decide +kernel
theorem dX7_readsAll_18 : decode cX7_readsAll 18 = .ok (.iload_n 1, 1) := by decide +kernel
theorem dX7_readsAll_19 : decode cX7_readsAll 19 = .ok (.bipush 8, 2) := by decide +kernel
theorem dX7_readsAll_21 : decode cX7_readsAll 21 = .ok (.iastore, 1) := by decide +kernel
theorem dX7_readsAll_22 : decode cX7_readsAll 22 = .ok (.iinc 1 1, 3) := by decide +kernel
theorem dX7_readsAll_25 : decode cX7_readsAll 25 = .ok (.goto (-18), 3) := by decide +kernel
theorem dX7_readsAll_28 : decode cX7_readsAll 28 = .ok (.aload_n 0, 1) := by decide +kernel
theorem dX7_readsAll_29 : decode cX7_readsAll 29 = .ok (.invokevirtual 185, 3) := by decide +kernel
theorem dX7_readsAll_32 : decode cX7_readsAll 32 = .ok (.istore_n 1, 1) := by decide +kernel
theorem dX7_readsAll_33 : decode cX7_readsAll 33 = .ok (.iload_n 1, 1) := by decide +kernel
theorem dX7_readsAll_34 : decode cX7_readsAll 34 = .ok (.ifCond .eq 30, 3) := by decide +kernel
theorem dX7_readsAll_37 : decode cX7_readsAll 37 = .ok (.aload_n 0, 1) := by decide +kernel
theorem dX7_readsAll_38 : decode cX7_readsAll 38 = .ok (.invokevirtual 178, 3) := by decide +kernel
theorem dX7_readsAll_41 : decode cX7_readsAll 41 = .ok (.bipush 59, 2) := by decide +kernel
theorem dX7_readsAll_43 : decode cX7_readsAll 43 = .ok (.if_icmp .ne 21, 3) := by decide +kernel
theorem dX7_readsAll_46 : decode cX7_readsAll 46 = .ok (.aload_n 0, 1) := by decide +kernel
theorem dX7_readsAll_47 : decode cX7_readsAll 47 = .ok (.dup, 1) := by decide +kernel
theorem dX7_readsAll_48 : decode cX7_readsAll 48 = .ok (.getfield 175, 3) := by decide +kernel
theorem dX7_readsAll_51 : decode cX7_readsAll 51 = .ok (.iconst 1, 1) := by decide +kernel
theorem dX7_readsAll_52 : decode cX7_readsAll 52 = .ok (.iadd, 1) := by decide +kernel
theorem dX7_readsAll_53 : decode cX7_readsAll 53 = .ok (.putfield 175, 3) := by decide +kernel
theorem dX7_readsAll_56 : decode cX7_readsAll 56 = .ok (.aload_n 0, 1) := by decide +kernel
theorem dX7_readsAll_57 : decode cX7_readsAll 57 = .ok (.invokevirtual 185, 3) := by decide +kernel
theorem dX7_readsAll_60 : decode cX7_readsAll 60 = .ok (.istore_n 1, 1) := by decide +kernel
theorem dX7_readsAll_61 : decode cX7_readsAll 61 = .ok (.goto (-28), 3) := by decide +kernel
theorem dX7_readsAll_64 : decode cX7_readsAll 64 = .ok (.iload_n 1, 1) := by decide +kernel
theorem dX7_readsAll_65 : decode cX7_readsAll 65 = .ok (.ifCond .eq 14, 3) := by decide +kernel
theorem dX7_readsAll_68 : decode cX7_readsAll 68 = .ok (.aload_n 0, 1) := by decide +kernel
theorem dX7_readsAll_69 : decode cX7_readsAll 69 = .ok (.invokevirtual 178, 3) := by decide +kernel
theorem dX7_readsAll_72 : decode cX7_readsAll 72 = .ok (.ifCond .ne 7, 3) := by decide +kernel
theorem dX7_readsAll_75 : decode cX7_readsAll 75 = .ok (.iconst 1, 1) := by decide +kernel
theorem dX7_readsAll_76 : decode cX7_readsAll 76 = .ok (.goto 4, 3) := by decide +kernel
theorem dX7_readsAll_79 : decode cX7_readsAll 79 = .ok (.iconst 0, 1) := by decide +kernel
theorem dX7_readsAll_80 : decode cX7_readsAll 80 = .ok (.ireturn, 1) := by decide +kernel
set_option maxRecDepth 20000 in
theorem ggX7_read_X7_readsAll : GoodIn wsX7_read wsX7_readsAll := goodIn_r _ [9, 2, 3, 10, 11, 12, 8, 13, 14, 15, 16, 17, 18, 19, 1, 20, 21, 22, 23, 36, 37, 38, 39, 40, 41, 42, 43, 44, 45, 46, 47, 48, 49, 50, 51, 52, 53] (by decide +kernel) (by decide +kernel)
set_option maxRecDepth 20000 in
theorem gX7_read_X7_readsAll : GoodIn wsX7_read (wsV RX7 189 RX7 yX7_readsAll wsX7_readsAll) := goodIn_app (goodIn_of _ (by decide +kernel)) ggX7_read_X7_readsAll
set_option maxRecDepth 20000 in
theorem ggX7_read_X7_notes : GoodIn wsX7_read wsX7_notes := goodIn_r _ [27, 28, 29, 4, 30, 31, 8, 32, 36, 37, 38, 39, 40, 41, 42, 43, 44, 45, 46, 47, 48, 49, 50, 51, 52, 53] (by decide +kernel) (by decide +kernel)
set_option maxRecDepth 20000 in
theorem gX7_read_X7_notes : GoodIn wsX7_read (wsV RX7 165 RX7 yX7_notes wsX7_notes) := goodIn_app (goodIn_of _ (by decide +kernel)) ggX7_read_X7_notes
set_option maxRecDepth 20000 in
theorem ggX7_read_X7_bring : GoodIn wsX7_read wsX7_bring := goodIn_r _ [32] (by decide +kernel) (by decide +kernel)
set_option maxRecDepth 20000 in
theorem gX7_read_X7_bring : GoodIn wsX7_read (va_wsS RX7 161 yX7_bring wsX7_bring) := goodIn_app (goodIn_of _ (by decide +kernel)) ggX7_read_X7_bring
set_option maxRecDepth 20000 in
theorem ggX7_read_X7_many : GoodIn wsX7_read wsX7_many := goodIn_r _ [35] (by decide +kernel) (by decide +kernel)
set_option maxRecDepth 20000 in
theorem gX7_read_X7_many : GoodIn wsX7_read (va_wsS RX7 138 yX7_many wsX7_many) := goodIn_app (goodIn_of _ (by decide +kernel)) ggX7_read_X7_many
theorem dX7_read_0 : decode cX7_read 0 = .ok (.aload_n 0, 1) := by decide +kernel
theorem dX7_read_1 : decode cX7_read 1 = .ok (.invokevirtual 189, 3) := by decide +kernel
theorem dX7_read_4 : decode cX7_read 4 = .ok (.istore_n 1, 1) := by decide +kernel
theorem dX7_read_5 : decode cX7_read 5 = .ok (.aload_n 0, 1) := by decide +kernel
theorem dX7_read_6 : decode cX7_read 6 = .ok (.iconst 0, 1) := by decide +kernel
theorem dX7_read_7 : decode cX7_read 7 = .ok (.putfield 172, 3) := by decide +kernel
theorem dX7_read_10 : decode cX7_read 10 = .ok (.iload_n 1, 1) := by decide +kernel
theorem dX7_read_11 : decode cX7_read 11 = .ok (.ifCond .ne 11, 3) := by decide +kernel
theorem dX7_read_14 : decode cX7_read 14 = .ok (.bipush (-20), 2) := by decide +kernel
theorem dX7_read_16 : decode cX7_read 16 = .ok (.aload_n 0, 1) := by decide +kernel
theorem dX7_read_17 : decode cX7_read 17 = .ok (.getfield 175, 3) := by decide +kernel
theorem dX7_read_20 : decode cX7_read 20 = .ok (.isub, 1) := by decide +kernel
theorem dX7_read_21 : decode cX7_read 21 = .ok (.ireturn, 1) := by decide +kernel
theorem dX7_read_22 : decode cX7_read 22 = .ok (.aload_n 0, 1) := by decide +kernel
theorem dX7_read_23 : decode cX7_read 23 = .ok (.invokevirtual 165, 3) := by decide +kernel
theorem dX7_read_26 : decode cX7_read 26 = .ok (.aload_n 0, 1) := by decide +kernel
theorem dX7_read_27 : decode cX7_read 27 = .ok (.getfield 54, 3) := by decide +kernel
theorem dX7_read_30 : decode cX7_read 30 = .ok (.iconst 1, 1) := by decide +kernel
theorem dX7_read_31 : decode cX7_read 31 = .ok (.aload_n 0, 1) := by decide +kernel
theorem dX7_read_32 : decode cX7_read 32 = .ok (.getfield 7, 3) := by decide +kernel
theorem dX7_read_35 : decode cX7_read 35 = .ok (.iconst 1, 1) := by decide +kernel
theorem dX7_read_36 : decode cX7_read 36 = .ok (.sipush 511, 3) := by decide +kernel
theorem dX7_read_39 : decode cX7_read 39 = .ok (.invokestatic 161, 3) := by decide +kernel
theorem dX7_read_42 : decode cX7_read 42 = .ok (.aload_n 0, 1) := by decide +kernel
theorem dX7_read_43 : decode cX7_read 43 = .ok (.getfield 7, 3) := by decide +kernel
theorem dX7_read_46 : decode cX7_read 46 = .ok (.iconst 0, 1) := by decide +kernel
theorem dX7_read_47 : decode cX7_read 47 = .ok (.invokestatic 138, 3) := by decide +kernel
theorem dX7_read_50 : decode cX7_read 50 = .ok (.ireturn, 1) := by decide +kernel
set_option maxRecDepth 20000 in
theorem ggX7_turnsOnce_X7_notes : GoodIn wsX7_turnsOnce wsX7_notes := goodIn_r _ [10, 11, 12, 1, 13, 14, 9, 15, 19, 20, 21, 22, 23, 24, 25, 26, 27, 28, 29, 30, 31, 32, 33, 34, 35, 36] (by decide +kernel) (by decide +kernel)
set_option maxRecDepth 20000 in
theorem gX7_turnsOnce_X7_notes : GoodIn wsX7_turnsOnce (wsV RX7 165 RX7 yX7_notes wsX7_notes) := goodIn_app (goodIn_of _ (by decide +kernel)) ggX7_turnsOnce_X7_notes
set_option maxRecDepth 20000 in
theorem ggX7_turnsOnce_X7_many : GoodIn wsX7_turnsOnce wsX7_many := goodIn_r _ [18] (by decide +kernel) (by decide +kernel)
set_option maxRecDepth 20000 in
theorem gX7_turnsOnce_X7_many : GoodIn wsX7_turnsOnce (va_wsS RX7 138 yX7_many wsX7_many) := goodIn_app (goodIn_of _ (by decide +kernel)) ggX7_turnsOnce_X7_many
theorem dX7_turnsOnce_0 : decode cX7_turnsOnce 0 = .ok (.aload_n 0, 1) := by decide +kernel
theorem dX7_turnsOnce_1 : decode cX7_turnsOnce 1 = .ok (.invokevirtual 165, 3) := by decide +kernel
theorem dX7_turnsOnce_4 : decode cX7_turnsOnce 4 = .ok (.aload_n 0, 1) := by decide +kernel
theorem dX7_turnsOnce_5 : decode cX7_turnsOnce 5 = .ok (.getfield 7, 3) := by decide +kernel
theorem dX7_turnsOnce_8 : decode cX7_turnsOnce 8 = .ok (.sipush 1024, 3) := by decide +kernel
theorem dX7_turnsOnce_11 : decode cX7_turnsOnce 11 = .ok (.iaload, 1) := by decide +kernel
theorem dX7_turnsOnce_12 : decode cX7_turnsOnce 12 = .ok (.i2l, 1) := by decide +kernel
theorem dX7_turnsOnce_13 : decode cX7_turnsOnce 13 = .ok (.ldc2_w 192, 3) := by decide +kernel
theorem dX7_turnsOnce_16 : decode cX7_turnsOnce 16 = .ok (.lmul, 1) := by decide +kernel
theorem dX7_turnsOnce_17 : decode cX7_turnsOnce 17 = .ok (.ldc2_w 194, 3) := by decide +kernel
theorem dX7_turnsOnce_20 : decode cX7_turnsOnce 20 = .ok (.ladd, 1) := by decide +kernel
theorem dX7_turnsOnce_21 : decode cX7_turnsOnce 21 = .ok (.lstore_n 1, 1) := by decide +kernel
theorem dX7_turnsOnce_22 : decode cX7_turnsOnce 22 = .ok (.aload_n 0, 1) := by decide +kernel
theorem dX7_turnsOnce_23 : decode cX7_turnsOnce 23 = .ok (.getfield 7, 3) := by decide +kernel
theorem dX7_turnsOnce_26 : decode cX7_turnsOnce 26 = .ok (.sipush 1024, 3) := by decide +kernel
theorem dX7_turnsOnce_29 : decode cX7_turnsOnce 29 = .ok (.lload_n 1, 1) := by decide +kernel
theorem dX7_turnsOnce_30 : decode cX7_turnsOnce 30 = .ok (.ldc2_w 196, 3) := by decide +kernel
theorem dX7_turnsOnce_33 : decode cX7_turnsOnce 33 = .ok (.lrem, 1) := by decide +kernel
theorem dX7_turnsOnce_34 : decode cX7_turnsOnce 34 = .ok (.l2i, 1) := by decide +kernel
theorem dX7_turnsOnce_35 : decode cX7_turnsOnce 35 = .ok (.iastore, 1) := by decide +kernel
theorem dX7_turnsOnce_36 : decode cX7_turnsOnce 36 = .ok (.aload_n 0, 1) := by decide +kernel
theorem dX7_turnsOnce_37 : decode cX7_turnsOnce 37 = .ok (.getfield 7, 3) := by decide +kernel
theorem dX7_turnsOnce_40 : decode cX7_turnsOnce 40 = .ok (.sipush 1024, 3) := by decide +kernel
theorem dX7_turnsOnce_43 : decode cX7_turnsOnce 43 = .ok (.iaload, 1) := by decide +kernel
theorem dX7_turnsOnce_44 : decode cX7_turnsOnce 44 = .ok (.ldc 198, 2) := by decide +kernel
theorem dX7_turnsOnce_46 : decode cX7_turnsOnce 46 = .ok (.idiv, 1) := by decide +kernel
theorem dX7_turnsOnce_47 : decode cX7_turnsOnce 47 = .ok (.istore_n 3, 1) := by decide +kernel
theorem dX7_turnsOnce_48 : decode cX7_turnsOnce 48 = .ok (.iconst 1, 1) := by decide +kernel
theorem dX7_turnsOnce_49 : decode cX7_turnsOnce 49 = .ok (.istore 4, 2) := by decide +kernel
theorem dX7_turnsOnce_51 : decode cX7_turnsOnce 51 = .ok (.iconst 0, 1) := by decide +kernel
theorem dX7_turnsOnce_52 : decode cX7_turnsOnce 52 = .ok (.istore 5, 2) := by decide +kernel
theorem dX7_turnsOnce_54 : decode cX7_turnsOnce 54 = .ok (.iload 5, 2) := by decide +kernel
theorem dX7_turnsOnce_56 : decode cX7_turnsOnce 56 = .ok (.iload_n 3, 1) := by decide +kernel
theorem dX7_turnsOnce_57 : decode cX7_turnsOnce 57 = .ok (.bipush 9, 2) := by decide +kernel
theorem dX7_turnsOnce_59 : decode cX7_turnsOnce 59 = .ok (.irem, 1) := by decide +kernel
theorem dX7_turnsOnce_60 : decode cX7_turnsOnce 60 = .ok (.if_icmp .ge 15, 3) := by decide +kernel
theorem dX7_turnsOnce_63 : decode cX7_turnsOnce 63 = .ok (.iload 4, 2) := by decide +kernel
theorem dX7_turnsOnce_65 : decode cX7_turnsOnce 65 = .ok (.iconst 2, 1) := by decide +kernel
theorem dX7_turnsOnce_66 : decode cX7_turnsOnce 66 = .ok (.imul, 1) := by decide +kernel
theorem dX7_turnsOnce_67 : decode cX7_turnsOnce 67 = .ok (.istore 4, 2) := by decide +kernel
theorem dX7_turnsOnce_69 : decode cX7_turnsOnce 69 = .ok (.iinc 5 1, 3) := by decide +kernel
theorem dX7_turnsOnce_72 : decode cX7_turnsOnce 72 = .ok (.goto (-18), 3) := by decide +kernel
theorem dX7_turnsOnce_75 : decode cX7_turnsOnce 75 = .ok (.iload 4, 2) := by decide +kernel
theorem dX7_turnsOnce_77 : decode cX7_turnsOnce 77 = .ok (.iload_n 3, 1) := by decide +kernel
theorem dX7_turnsOnce_78 : decode cX7_turnsOnce 78 = .ok (.bipush 16, 2) := by decide +kernel
theorem dX7_turnsOnce_80 : decode cX7_turnsOnce 80 = .ok (.idiv, 1) := by decide +kernel
theorem dX7_turnsOnce_81 : decode cX7_turnsOnce 81 = .ok (.iload 4, 2) := by decide +kernel
theorem dX7_turnsOnce_83 : decode cX7_turnsOnce 83 = .ok (.irem, 1) := by decide +kernel
theorem dX7_turnsOnce_84 : decode cX7_turnsOnce 84 = .ok (.iadd, 1) := by decide +kernel
theorem dX7_turnsOnce_85 : decode cX7_turnsOnce 85 = .ok (.istore 4, 2) := by decide +kernel
theorem dX7_turnsOnce_87 : decode cX7_turnsOnce 87 = .ok (.iload_n 3, 1) := by decide +kernel
theorem dX7_turnsOnce_88 : decode cX7_turnsOnce 88 = .ok (.sipush 4096, 3) := by decide +kernel
theorem dX7_turnsOnce_91 : decode cX7_turnsOnce 91 = .ok (.idiv, 1) := by decide +kernel
theorem dX7_turnsOnce_92 : decode cX7_turnsOnce 92 = .ok (.istore 5, 2) := by decide +kernel
theorem dX7_turnsOnce_94 : decode cX7_turnsOnce 94 = .ok (.aload_n 0, 1) := by decide +kernel
theorem dX7_turnsOnce_95 : decode cX7_turnsOnce 95 = .ok (.getfield 7, 3) := by decide +kernel
theorem dX7_turnsOnce_98 : decode cX7_turnsOnce 98 = .ok (.iconst 0, 1) := by decide +kernel
theorem dX7_turnsOnce_99 : decode cX7_turnsOnce 99 = .ok (.iload 4, 2) := by decide +kernel
theorem dX7_turnsOnce_101 : decode cX7_turnsOnce 101 = .ok (.iadd, 1) := by decide +kernel
theorem dX7_turnsOnce_102 : decode cX7_turnsOnce 102 = .ok (.iaload, 1) := by decide +kernel
theorem dX7_turnsOnce_103 : decode cX7_turnsOnce 103 = .ok (.iload 5, 2) := by decide +kernel
theorem dX7_turnsOnce_105 : decode cX7_turnsOnce 105 = .ok (.if_icmp .ne 17, 3) := by decide +kernel
theorem dX7_turnsOnce_108 : decode cX7_turnsOnce 108 = .ok (.aload_n 0, 1) := by decide +kernel
theorem dX7_turnsOnce_109 : decode cX7_turnsOnce 109 = .ok (.getfield 7, 3) := by decide +kernel
theorem dX7_turnsOnce_112 : decode cX7_turnsOnce 112 = .ok (.iconst 0, 1) := by decide +kernel
theorem dX7_turnsOnce_113 : decode cX7_turnsOnce 113 = .ok (.iload 4, 2) := by decide +kernel
theorem dX7_turnsOnce_115 : decode cX7_turnsOnce 115 = .ok (.iadd, 1) := by decide +kernel
theorem dX7_turnsOnce_116 : decode cX7_turnsOnce 116 = .ok (.bipush 8, 2) := by decide +kernel
theorem dX7_turnsOnce_118 : decode cX7_turnsOnce 118 = .ok (.iastore, 1) := by decide +kernel
theorem dX7_turnsOnce_119 : decode cX7_turnsOnce 119 = .ok (.goto 41, 3) := by decide +kernel
theorem dX7_turnsOnce_122 : decode cX7_turnsOnce 122 = .ok (.aload_n 0, 1) := by decide +kernel
theorem dX7_turnsOnce_123 : decode cX7_turnsOnce 123 = .ok (.getfield 7, 3) := by decide +kernel
theorem dX7_turnsOnce_126 : decode cX7_turnsOnce 126 = .ok (.iconst 0, 1) := by decide +kernel
theorem dX7_turnsOnce_127 : decode cX7_turnsOnce 127 = .ok (.iload 4, 2) := by decide +kernel
theorem dX7_turnsOnce_129 : decode cX7_turnsOnce 129 = .ok (.iadd, 1) := by decide +kernel
theorem dX7_turnsOnce_130 : decode cX7_turnsOnce 130 = .ok (.iaload, 1) := by decide +kernel
theorem dX7_turnsOnce_131 : decode cX7_turnsOnce 131 = .ok (.bipush 8, 2) := by decide +kernel
theorem dX7_turnsOnce_133 : decode cX7_turnsOnce 133 = .ok (.if_icmp .ne 16, 3) := by decide +kernel
theorem dX7_turnsOnce_136 : decode cX7_turnsOnce 136 = .ok (.aload_n 0, 1) := by decide +kernel
theorem dX7_turnsOnce_137 : decode cX7_turnsOnce 137 = .ok (.getfield 7, 3) := by decide +kernel
theorem dX7_turnsOnce_140 : decode cX7_turnsOnce 140 = .ok (.iconst 0, 1) := by decide +kernel
theorem dX7_turnsOnce_141 : decode cX7_turnsOnce 141 = .ok (.invokestatic 138, 3) := by decide +kernel
theorem dX7_turnsOnce_144 : decode cX7_turnsOnce 144 = .ok (.bipush 40, 2) := by decide +kernel
theorem dX7_turnsOnce_146 : decode cX7_turnsOnce 146 = .ok (.if_icmp .ge 14, 3) := by decide +kernel
theorem dX7_turnsOnce_149 : decode cX7_turnsOnce 149 = .ok (.aload_n 0, 1) := by decide +kernel
theorem dX7_turnsOnce_150 : decode cX7_turnsOnce 150 = .ok (.getfield 7, 3) := by decide +kernel
theorem dX7_turnsOnce_153 : decode cX7_turnsOnce 153 = .ok (.iconst 0, 1) := by decide +kernel
theorem dX7_turnsOnce_154 : decode cX7_turnsOnce 154 = .ok (.iload 4, 2) := by decide +kernel
theorem dX7_turnsOnce_156 : decode cX7_turnsOnce 156 = .ok (.iadd, 1) := by decide +kernel
theorem dX7_turnsOnce_157 : decode cX7_turnsOnce 157 = .ok (.iload 5, 2) := by decide +kernel
theorem dX7_turnsOnce_159 : decode cX7_turnsOnce 159 = .ok (.iastore, 1) := by decide +kernel
theorem dX7_turnsOnce_160 : decode cX7_turnsOnce 160 = .ok (.return_, 1) := by decide +kernel
set_option maxRecDepth 20000 in
theorem ggX7_drift_X7_in : GoodIn wsX7_drift wsX7_in := goodIn_r _ [6] (by decide +kernel) (by decide +kernel)
set_option maxRecDepth 20000 in
theorem gX7_drift_X7_in : GoodIn wsX7_drift (va_wsS RX7 90 yX7_in wsX7_in) := goodIn_app (goodIn_of _ (by decide +kernel)) ggX7_drift_X7_in
set_option maxRecDepth 20000 in
theorem ggX7_drift_X7_turnsOnce : GoodIn wsX7_drift wsX7_turnsOnce := goodIn_r _ [10, 2, 11, 12, 13, 14, 15, 16, 17, 5, 18, 19, 20, 21, 22, 23, 24, 25, 26, 27, 28, 29, 30, 31, 32, 33, 34, 35, 36, 37, 38, 39, 40, 41, 42, 43, 44] (by decide +kernel) (by decide +kernel)
set_option maxRecDepth 20000 in
theorem gX7_drift_X7_turnsOnce : GoodIn wsX7_drift (wsV RX7 201 RX7 yX7_turnsOnce wsX7_turnsOnce) := goodIn_app (goodIn_of _ (by decide +kernel)) ggX7_drift_X7_turnsOnce
set_option maxRecDepth 20000 in
theorem ggX7_drift_X7_many : GoodIn wsX7_drift wsX7_many := goodIn_r _ [26] (by decide +kernel) (by decide +kernel)
set_option maxRecDepth 20000 in
theorem gX7_drift_X7_many : GoodIn wsX7_drift (va_wsS RX7 138 yX7_many wsX7_many) := goodIn_app (goodIn_of _ (by decide +kernel)) ggX7_drift_X7_many
theorem dX7_drift_0 : decode cX7_drift 0 = .ok (.iload_n 1, 1) := by decide +kernel
theorem dX7_drift_1 : decode cX7_drift 1 = .ok (.i2l, 1) := by decide +kernel
theorem dX7_drift_2 : decode cX7_drift 2 = .ok (.lconst 1, 1) := by decide +kernel
theorem dX7_drift_3 : decode cX7_drift 3 = .ok (.ldc2_w 199, 3) := by decide +kernel
theorem dX7_drift_6 : decode cX7_drift 6 = .ok (.invokestatic 90, 3) := by decide +kernel
theorem dX7_drift_9 : decode cX7_drift 9 = .ok (.ifCond .ne 5, 3) := by decide +kernel
theorem dX7_drift_12 : decode cX7_drift 12 = .ok (.iconst (-1), 1) := by decide +kernel
theorem dX7_drift_13 : decode cX7_drift 13 = .ok (.ireturn, 1) := by decide +kernel
theorem dX7_drift_14 : decode cX7_drift 14 = .ok (.iconst 0, 1) := by decide +kernel
theorem dX7_drift_15 : decode cX7_drift 15 = .ok (.istore_n 2, 1) := by decide +kernel
theorem dX7_drift_16 : decode cX7_drift 16 = .ok (.iload_n 2, 1) := by decide +kernel
theorem dX7_drift_17 : decode cX7_drift 17 = .ok (.iload_n 1, 1) := by decide +kernel
theorem dX7_drift_18 : decode cX7_drift 18 = .ok (.if_icmp .ge 13, 3) := by decide +kernel
theorem dX7_drift_21 : decode cX7_drift 21 = .ok (.aload_n 0, 1) := by decide +kernel
theorem dX7_drift_22 : decode cX7_drift 22 = .ok (.invokevirtual 201, 3) := by decide +kernel
theorem dX7_drift_25 : decode cX7_drift 25 = .ok (.iinc 2 1, 3) := by decide +kernel
theorem dX7_drift_28 : decode cX7_drift 28 = .ok (.goto (-12), 3) := by decide +kernel
theorem dX7_drift_31 : decode cX7_drift 31 = .ok (.aload_n 0, 1) := by decide +kernel
theorem dX7_drift_32 : decode cX7_drift 32 = .ok (.getfield 7, 3) := by decide +kernel
theorem dX7_drift_35 : decode cX7_drift 35 = .ok (.iconst 0, 1) := by decide +kernel
theorem dX7_drift_36 : decode cX7_drift 36 = .ok (.invokestatic 138, 3) := by decide +kernel
theorem dX7_drift_39 : decode cX7_drift 39 = .ok (.ireturn, 1) := by decide +kernel
set_option maxRecDepth 20000 in
theorem ggX7_undo_X7_bring : GoodIn wsX7_undo wsX7_bring := goodIn_r _ [7] (by decide +kernel) (by decide +kernel)
set_option maxRecDepth 20000 in
theorem gX7_undo_X7_bring : GoodIn wsX7_undo (va_wsS RX7 161 yX7_bring wsX7_bring) := goodIn_app (goodIn_of _ (by decide +kernel)) ggX7_undo_X7_bring
theorem dX7_undo_0 : decode cX7_undo 0 = .ok (.aload_n 0, 1) := by decide +kernel
theorem dX7_undo_1 : decode cX7_undo 1 = .ok (.getfield 152, 3) := by decide +kernel
theorem dX7_undo_4 : decode cX7_undo 4 = .ok (.ifCond .ne 6, 3) := by decide +kernel
theorem dX7_undo_7 : decode cX7_undo 7 = .ok (.bipush (-4), 2) := by decide +kernel
theorem dX7_undo_9 : decode cX7_undo 9 = .ok (.ireturn, 1) := by decide +kernel
theorem dX7_undo_10 : decode cX7_undo 10 = .ok (.aload_n 0, 1) := by decide +kernel
theorem dX7_undo_11 : decode cX7_undo 11 = .ok (.dup, 1) := by decide +kernel
theorem dX7_undo_12 : decode cX7_undo 12 = .ok (.getfield 152, 3) := by decide +kernel
theorem dX7_undo_15 : decode cX7_undo 15 = .ok (.iconst 1, 1) := by decide +kernel
theorem dX7_undo_16 : decode cX7_undo 16 = .ok (.isub, 1) := by decide +kernel
theorem dX7_undo_17 : decode cX7_undo 17 = .ok (.putfield 152, 3) := by decide +kernel
theorem dX7_undo_20 : decode cX7_undo 20 = .ok (.aload_n 0, 1) := by decide +kernel
theorem dX7_undo_21 : decode cX7_undo 21 = .ok (.getfield 13, 3) := by decide +kernel
theorem dX7_undo_24 : decode cX7_undo 24 = .ok (.sipush 1025, 3) := by decide +kernel
theorem dX7_undo_27 : decode cX7_undo 27 = .ok (.aload_n 0, 1) := by decide +kernel
theorem dX7_undo_28 : decode cX7_undo 28 = .ok (.getfield 152, 3) := by decide +kernel
theorem dX7_undo_31 : decode cX7_undo 31 = .ok (.imul, 1) := by decide +kernel
theorem dX7_undo_32 : decode cX7_undo 32 = .ok (.aload_n 0, 1) := by decide +kernel
theorem dX7_undo_33 : decode cX7_undo 33 = .ok (.getfield 7, 3) := by decide +kernel
theorem dX7_undo_36 : decode cX7_undo 36 = .ok (.iconst 0, 1) := by decide +kernel
theorem dX7_undo_37 : decode cX7_undo 37 = .ok (.sipush 1025, 3) := by decide +kernel
theorem dX7_undo_40 : decode cX7_undo 40 = .ok (.invokestatic 161, 3) := by decide +kernel
theorem dX7_undo_43 : decode cX7_undo 43 = .ok (.aload_n 0, 1) := by decide +kernel
theorem dX7_undo_44 : decode cX7_undo 44 = .ok (.getfield 152, 3) := by decide +kernel
theorem dX7_undo_47 : decode cX7_undo 47 = .ok (.ireturn, 1) := by decide +kernel
theorem dX7_seed_0 : decode cX7_seed 0 = .ok (.iload_n 1, 1) := by decide +kernel
theorem dX7_seed_1 : decode cX7_seed 1 = .ok (.ifCond .ge 5, 3) := by decide +kernel
theorem dX7_seed_4 : decode cX7_seed 4 = .ok (.iconst (-1), 1) := by decide +kernel
theorem dX7_seed_5 : decode cX7_seed 5 = .ok (.ireturn, 1) := by decide +kernel
theorem dX7_seed_6 : decode cX7_seed 6 = .ok (.aload_n 0, 1) := by decide +kernel
theorem dX7_seed_7 : decode cX7_seed 7 = .ok (.getfield 7, 3) := by decide +kernel
theorem dX7_seed_10 : decode cX7_seed 10 = .ok (.sipush 1024, 3) := by decide +kernel
theorem dX7_seed_13 : decode cX7_seed 13 = .ok (.iaload, 1) := by decide +kernel
theorem dX7_seed_14 : decode cX7_seed 14 = .ok (.istore_n 2, 1) := by decide +kernel
theorem dX7_seed_15 : decode cX7_seed 15 = .ok (.aload_n 0, 1) := by decide +kernel
theorem dX7_seed_16 : decode cX7_seed 16 = .ok (.getfield 7, 3) := by decide +kernel
theorem dX7_seed_19 : decode cX7_seed 19 = .ok (.sipush 1024, 3) := by decide +kernel
theorem dX7_seed_22 : decode cX7_seed 22 = .ok (.iload_n 1, 1) := by decide +kernel
theorem dX7_seed_23 : decode cX7_seed 23 = .ok (.iastore, 1) := by decide +kernel
theorem dX7_seed_24 : decode cX7_seed 24 = .ok (.iload_n 2, 1) := by decide +kernel
theorem dX7_seed_25 : decode cX7_seed 25 = .ok (.ireturn, 1) := by decide +kernel
set_option maxRecDepth 20000 in
theorem ggX7_image_X7_bring : GoodIn wsX7_image wsX7_bring := goodIn_r _ [10] (by decide +kernel) (by decide +kernel)
set_option maxRecDepth 20000 in
theorem gX7_image_X7_bring : GoodIn wsX7_image (va_wsS RX7 161 yX7_bring wsX7_bring) := goodIn_app (goodIn_of _ (by decide +kernel)) ggX7_image_X7_bring
theorem dX7_image_0 : decode cX7_image 0 = .ok (.aload_n 0, 1) := by decide +kernel
theorem dX7_image_1 : decode cX7_image 1 = .ok (.getfield 7, 3) := by decide +kernel
theorem dX7_image_4 : decode cX7_image 4 = .ok (.iconst 0, 1) := by decide +kernel
theorem dX7_image_5 : decode cX7_image 5 = .ok (.aload_n 0, 1) := by decide +kernel
theorem dX7_image_6 : decode cX7_image 6 = .ok (.getfield 16, 3) := by decide +kernel
theorem dX7_image_9 : decode cX7_image 9 = .ok (.iconst 0, 1) := by decide +kernel
theorem dX7_image_10 : decode cX7_image 10 = .ok (.sipush 1025, 3) := by decide +kernel
theorem dX7_image_13 : decode cX7_image 13 = .ok (.invokestatic 161, 3) := by decide +kernel
theorem dX7_image_16 : decode cX7_image 16 = .ok (.aload_n 0, 1) := by decide +kernel
theorem dX7_image_17 : decode cX7_image 17 = .ok (.getfield 13, 3) := by decide +kernel
theorem dX7_image_20 : decode cX7_image 20 = .ok (.iconst 0, 1) := by decide +kernel
theorem dX7_image_21 : decode cX7_image 21 = .ok (.aload_n 0, 1) := by decide +kernel
theorem dX7_image_22 : decode cX7_image 22 = .ok (.getfield 19, 3) := by decide +kernel
theorem dX7_image_25 : decode cX7_image 25 = .ok (.iconst 0, 1) := by decide +kernel
theorem dX7_image_26 : decode cX7_image 26 = .ok (.sipush 6150, 3) := by decide +kernel
theorem dX7_image_29 : decode cX7_image 29 = .ok (.invokestatic 161, 3) := by decide +kernel
theorem dX7_image_32 : decode cX7_image 32 = .ok (.aload_n 0, 1) := by decide +kernel
theorem dX7_image_33 : decode cX7_image 33 = .ok (.aload_n 0, 1) := by decide +kernel
theorem dX7_image_34 : decode cX7_image 34 = .ok (.getfield 152, 3) := by decide +kernel
theorem dX7_image_37 : decode cX7_image 37 = .ok (.putfield 22, 3) := by decide +kernel
theorem dX7_image_40 : decode cX7_image 40 = .ok (.iconst 1, 1) := by decide +kernel
theorem dX7_image_41 : decode cX7_image 41 = .ok (.ireturn, 1) := by decide +kernel
set_option maxRecDepth 20000 in
theorem ggX7_restore_X7_bring : GoodIn wsX7_restore wsX7_bring := goodIn_r _ [10] (by decide +kernel) (by decide +kernel)
set_option maxRecDepth 20000 in
theorem gX7_restore_X7_bring : GoodIn wsX7_restore (va_wsS RX7 161 yX7_bring wsX7_bring) := goodIn_app (goodIn_of _ (by decide +kernel)) ggX7_restore_X7_bring
theorem dX7_restore_0 : decode cX7_restore 0 = .ok (.aload_n 0, 1) := by decide +kernel
theorem dX7_restore_1 : decode cX7_restore 1 = .ok (.getfield 22, 3) := by decide +kernel
theorem dX7_restore_4 : decode cX7_restore 4 = .ok (.ifCond .ge 6, 3) := by decide +kernel
theorem dX7_restore_7 : decode cX7_restore 7 = .ok (.bipush (-4), 2) := by decide +kernel
theorem dX7_restore_9 : decode cX7_restore 9 = .ok (.ireturn, 1) := by decide +kernel
theorem dX7_restore_10 : decode cX7_restore 10 = .ok (.aload_n 0, 1) := by decide +kernel
theorem dX7_restore_11 : decode cX7_restore 11 = .ok (.getfield 16, 3) := by decide +kernel
theorem dX7_restore_14 : decode cX7_restore 14 = .ok (.iconst 0, 1) := by decide +kernel
theorem dX7_restore_15 : decode cX7_restore 15 = .ok (.aload_n 0, 1) := by decide +kernel
theorem dX7_restore_16 : decode cX7_restore 16 = .ok (.getfield 7, 3) := by decide +kernel
theorem dX7_restore_19 : decode cX7_restore 19 = .ok (.iconst 0, 1) := by decide +kernel
theorem dX7_restore_20 : decode cX7_restore 20 = .ok (.sipush 1025, 3) := by decide +kernel
theorem dX7_restore_23 : decode cX7_restore 23 = .ok (.invokestatic 161, 3) := by decide +kernel
theorem dX7_restore_26 : decode cX7_restore 26 = .ok (.aload_n 0, 1) := by decide +kernel
theorem dX7_restore_27 : decode cX7_restore 27 = .ok (.getfield 19, 3) := by decide +kernel
theorem dX7_restore_30 : decode cX7_restore 30 = .ok (.iconst 0, 1) := by decide +kernel
theorem dX7_restore_31 : decode cX7_restore 31 = .ok (.aload_n 0, 1) := by decide +kernel
theorem dX7_restore_32 : decode cX7_restore 32 = .ok (.getfield 13, 3) := by decide +kernel
theorem dX7_restore_35 : decode cX7_restore 35 = .ok (.iconst 0, 1) := by decide +kernel
theorem dX7_restore_36 : decode cX7_restore 36 = .ok (.sipush 6150, 3) := by decide +kernel
theorem dX7_restore_39 : decode cX7_restore 39 = .ok (.invokestatic 161, 3) := by decide +kernel
theorem dX7_restore_42 : decode cX7_restore 42 = .ok (.aload_n 0, 1) := by decide +kernel
theorem dX7_restore_43 : decode cX7_restore 43 = .ok (.aload_n 0, 1) := by decide +kernel
theorem dX7_restore_44 : decode cX7_restore 44 = .ok (.getfield 22, 3) := by decide +kernel
theorem dX7_restore_47 : decode cX7_restore 47 = .ok (.putfield 152, 3) := by decide +kernel
theorem dX7_restore_50 : decode cX7_restore 50 = .ok (.iconst 1, 1) := by decide +kernel
theorem dX7_restore_51 : decode cX7_restore 51 = .ok (.ireturn, 1) := by decide +kernel
set_option maxRecDepth 20000 in
theorem ggX7_isSheet_X7_in : GoodIn wsX7_isSheet wsX7_in := goodIn_r _ [5] (by decide +kernel) (by decide +kernel)
set_option maxRecDepth 20000 in
theorem gX7_isSheet_X7_in : GoodIn wsX7_isSheet (va_wsS RX7 90 yX7_in wsX7_in) := goodIn_app (goodIn_of _ (by decide +kernel)) ggX7_isSheet_X7_in
theorem dX7_isSheet_0 : decode cX7_isSheet 0 = .ok (.iload_n 0, 1) := by decide +kernel
theorem dX7_isSheet_1 : decode cX7_isSheet 1 = .ok (.i2l, 1) := by decide +kernel
theorem dX7_isSheet_2 : decode cX7_isSheet 2 = .ok (.lconst 0, 1) := by decide +kernel
theorem dX7_isSheet_3 : decode cX7_isSheet 3 = .ok (.ldc2_w 94, 3) := by decide +kernel
theorem dX7_isSheet_6 : decode cX7_isSheet 6 = .ok (.invokestatic 90, 3) := by decide +kernel
theorem dX7_isSheet_9 : decode cX7_isSheet 9 = .ok (.ifCond .eq 19, 3) := by decide +kernel
theorem dX7_isSheet_12 : decode cX7_isSheet 12 = .ok (.iload_n 1, 1) := by decide +kernel
theorem dX7_isSheet_13 : decode cX7_isSheet 13 = .ok (.i2l, 1) := by decide +kernel
theorem dX7_isSheet_14 : decode cX7_isSheet 14 = .ok (.lconst 0, 1) := by decide +kernel
theorem dX7_isSheet_15 : decode cX7_isSheet 15 = .ok (.ldc2_w 94, 3) := by decide +kernel
theorem dX7_isSheet_18 : decode cX7_isSheet 18 = .ok (.invokestatic 90, 3) := by decide +kernel
theorem dX7_isSheet_21 : decode cX7_isSheet 21 = .ok (.ifCond .eq 7, 3) := by decide +kernel
theorem dX7_isSheet_24 : decode cX7_isSheet 24 = .ok (.iconst 1, 1) := by decide +kernel
theorem dX7_isSheet_25 : decode cX7_isSheet 25 = .ok (.goto 4, 3) := by decide +kernel
theorem dX7_isSheet_28 : decode cX7_isSheet 28 = .ok (.iconst 0, 1) := by decide +kernel
theorem dX7_isSheet_29 : decode cX7_isSheet 29 = .ok (.ireturn, 1) := by decide +kernel
theorem dX7_found_0 : decode cX7_found 0 = .ok (.aload_n 0, 1) := by decide +kernel
theorem dX7_found_1 : decode cX7_found 1 = .ok (.getfield 29, 3) := by decide +kernel
theorem dX7_found_4 : decode cX7_found 4 = .ok (.iload_n 1, 1) := by decide +kernel
theorem dX7_found_5 : decode cX7_found 5 = .ok (.iaload, 1) := by decide +kernel
theorem dX7_found_6 : decode cX7_found 6 = .ok (.ifCond .ge 6, 3) := by decide +kernel
theorem dX7_found_9 : decode cX7_found 9 = .ok (.bipush (-11), 2) := by decide +kernel
theorem dX7_found_11 : decode cX7_found 11 = .ok (.ireturn, 1) := by decide +kernel
theorem dX7_found_12 : decode cX7_found 12 = .ok (.aload_n 0, 1) := by decide +kernel
theorem dX7_found_13 : decode cX7_found 13 = .ok (.getfield 29, 3) := by decide +kernel
theorem dX7_found_16 : decode cX7_found 16 = .ok (.iload_n 1, 1) := by decide +kernel
theorem dX7_found_17 : decode cX7_found 17 = .ok (.iaload, 1) := by decide +kernel
theorem dX7_found_18 : decode cX7_found 18 = .ok (.iload_n 2, 1) := by decide +kernel
theorem dX7_found_19 : decode cX7_found 19 = .ok (.if_icmp .eq 6, 3) := by decide +kernel
theorem dX7_found_22 : decode cX7_found 22 = .ok (.bipush (-12), 2) := by decide +kernel
theorem dX7_found_24 : decode cX7_found 24 = .ok (.ireturn, 1) := by decide +kernel
theorem dX7_found_25 : decode cX7_found 25 = .ok (.iload_n 3, 1) := by decide +kernel
theorem dX7_found_26 : decode cX7_found 26 = .ok (.ifCond .lt 16, 3) := by decide +kernel
theorem dX7_found_29 : decode cX7_found 29 = .ok (.iload_n 3, 1) := by decide +kernel
theorem dX7_found_30 : decode cX7_found 30 = .ok (.aload_n 0, 1) := by decide +kernel
theorem dX7_found_31 : decode cX7_found 31 = .ok (.getfield 32, 3) := by decide +kernel
theorem dX7_found_34 : decode cX7_found 34 = .ok (.iload_n 1, 1) := by decide +kernel
theorem dX7_found_35 : decode cX7_found 35 = .ok (.iaload, 1) := by decide +kernel
theorem dX7_found_36 : decode cX7_found 36 = .ok (.iload 4, 2) := by decide +kernel
theorem dX7_found_38 : decode cX7_found 38 = .ok (.isub, 1) := by decide +kernel
theorem dX7_found_39 : decode cX7_found 39 = .ok (.if_icmp .le 8, 3) := by decide +kernel
theorem dX7_found_42 : decode cX7_found 42 = .ok (.bipush (-13), 2) := by decide +kernel
theorem dX7_found_44 : decode cX7_found 44 = .ok (.goto 4, 3) := by decide +kernel
theorem dX7_found_47 : decode cX7_found 47 = .ok (.iconst 0, 1) := by decide +kernel
theorem dX7_found_48 : decode cX7_found 48 = .ok (.ireturn, 1) := by decide +kernel
theorem dX7_isLength_0 : decode cX7_isLength 0 = .ok (.iconst 1, 1) := by decide +kernel
theorem dX7_isLength_1 : decode cX7_isLength 1 = .ok (.istore 4, 2) := by decide +kernel
theorem dX7_isLength_3 : decode cX7_isLength 3 = .ok (.iconst 0, 1) := by decide +kernel
theorem dX7_isLength_4 : decode cX7_isLength 4 = .ok (.istore 5, 2) := by decide +kernel
theorem dX7_isLength_6 : decode cX7_isLength 6 = .ok (.iload 5, 2) := by decide +kernel
theorem dX7_isLength_8 : decode cX7_isLength 8 = .ok (.iload_n 2, 1) := by decide +kernel
theorem dX7_isLength_9 : decode cX7_isLength 9 = .ok (.if_icmp .ge 115, 3) := by decide +kernel
theorem dX7_isLength_12 : decode cX7_isLength 12 = .ok (.iconst 0, 1) := by decide +kernel
theorem dX7_isLength_13 : decode cX7_isLength 13 = .ok (.istore 6, 2) := by decide +kernel
theorem dX7_isLength_15 : decode cX7_isLength 15 = .ok (.iload 6, 2) := by decide +kernel
theorem dX7_isLength_17 : decode cX7_isLength 17 = .ok (.iload 5, 2) := by decide +kernel
theorem dX7_isLength_19 : decode cX7_isLength 19 = .ok (.if_icmp .ge 99, 3) := by decide +kernel
theorem dX7_isLength_22 : decode cX7_isLength 22 = .ok (.aload_n 0, 1) := by decide +kernel
theorem dX7_isLength_23 : decode cX7_isLength 23 = .ok (.getfield 35, 3) := by decide +kernel
theorem dX7_isLength_26 : decode cX7_isLength 26 = .ok (.iload_n 1, 1) := by decide +kernel
theorem dX7_isLength_27 : decode cX7_isLength 27 = .ok (.iconst 2, 1) := by decide +kernel
theorem dX7_isLength_28 : decode cX7_isLength 28 = .ok (.iload 5, 2) := by decide +kernel
theorem dX7_isLength_30 : decode cX7_isLength 30 = .ok (.imul, 1) := by decide +kernel
theorem dX7_isLength_31 : decode cX7_isLength 31 = .ok (.iadd, 1) := by decide +kernel
theorem dX7_isLength_32 : decode cX7_isLength 32 = .ok (.laload, 1) := by decide +kernel
theorem dX7_isLength_33 : decode cX7_isLength 33 = .ok (.bipush 8, 2) := by decide +kernel
theorem dX7_isLength_35 : decode cX7_isLength 35 = .ok (.iload_n 3, 1) := by decide +kernel
theorem dX7_isLength_36 : decode cX7_isLength 36 = .ok (.isub, 1) := by decide +kernel
theorem dX7_isLength_37 : decode cX7_isLength 37 = .ok (.lshr, 1) := by decide +kernel
theorem dX7_isLength_38 : decode cX7_isLength 38 = .ok (.aload_n 0, 1) := by decide +kernel
theorem dX7_isLength_39 : decode cX7_isLength 39 = .ok (.getfield 35, 3) := by decide +kernel
theorem dX7_isLength_42 : decode cX7_isLength 42 = .ok (.iload_n 1, 1) := by decide +kernel
theorem dX7_isLength_43 : decode cX7_isLength 43 = .ok (.iconst 2, 1) := by decide +kernel
theorem dX7_isLength_44 : decode cX7_isLength 44 = .ok (.iload 6, 2) := by decide +kernel
theorem dX7_isLength_46 : decode cX7_isLength 46 = .ok (.imul, 1) := by decide +kernel
theorem dX7_isLength_47 : decode cX7_isLength 47 = .ok (.iadd, 1) := by decide +kernel
theorem dX7_isLength_48 : decode cX7_isLength 48 = .ok (.laload, 1) := by decide +kernel
theorem dX7_isLength_49 : decode cX7_isLength 49 = .ok (.bipush 8, 2) := by decide +kernel
theorem dX7_isLength_51 : decode cX7_isLength 51 = .ok (.iload_n 3, 1) := by decide +kernel
theorem dX7_isLength_52 : decode cX7_isLength 52 = .ok (.isub, 1) := by decide +kernel
theorem dX7_isLength_53 : decode cX7_isLength 53 = .ok (.lshr, 1) := by decide +kernel
theorem dX7_isLength_54 : decode cX7_isLength 54 = .ok (.lcmp, 1) := by decide +kernel
theorem dX7_isLength_55 : decode cX7_isLength 55 = .ok (.ifCond .ne 7, 3) := by decide +kernel
theorem dX7_isLength_58 : decode cX7_isLength 58 = .ok (.iconst 1, 1) := by decide +kernel
theorem dX7_isLength_59 : decode cX7_isLength 59 = .ok (.goto 4, 3) := by decide +kernel
theorem dX7_isLength_62 : decode cX7_isLength 62 = .ok (.iconst 0, 1) := by decide +kernel
theorem dX7_isLength_63 : decode cX7_isLength 63 = .ok (.istore 7, 2) := by decide +kernel
theorem dX7_isLength_65 : decode cX7_isLength 65 = .ok (.iload 4, 2) := by decide +kernel
theorem dX7_isLength_67 : decode cX7_isLength 67 = .ok (.ifCond .eq 42, 3) := by decide +kernel
theorem dX7_isLength_70 : decode cX7_isLength 70 = .ok (.iload 7, 2) := by decide +kernel
theorem dX7_isLength_72 : decode cX7_isLength 72 = .ok (.ifCond .eq 33, 3) := by decide +kernel
theorem dX7_isLength_75 : decode cX7_isLength 75 = .ok (.aload_n 0, 1) := by decide +kernel
theorem dX7_isLength_76 : decode cX7_isLength 76 = .ok (.getfield 35, 3) := by decide +kernel
theorem dX7_isLength_79 : decode cX7_isLength 79 = .ok (.iload_n 1, 1) := by decide +kernel
theorem dX7_isLength_80 : decode cX7_isLength 80 = .ok (.iconst 2, 1) := by decide +kernel
theorem dX7_isLength_81 : decode cX7_isLength 81 = .ok (.iload 5, 2) := by decide +kernel
theorem dX7_isLength_83 : decode cX7_isLength 83 = .ok (.imul, 1) := by decide +kernel
theorem dX7_isLength_84 : decode cX7_isLength 84 = .ok (.iadd, 1) := by decide +kernel
theorem dX7_isLength_85 : decode cX7_isLength 85 = .ok (.iconst 1, 1) := by decide +kernel
theorem dX7_isLength_86 : decode cX7_isLength 86 = .ok (.iadd, 1) := by decide +kernel
theorem dX7_isLength_87 : decode cX7_isLength 87 = .ok (.laload, 1) := by decide +kernel
theorem dX7_isLength_88 : decode cX7_isLength 88 = .ok (.aload_n 0, 1) := by decide +kernel
theorem dX7_isLength_89 : decode cX7_isLength 89 = .ok (.getfield 35, 3) := by decide +kernel
theorem dX7_isLength_92 : decode cX7_isLength 92 = .ok (.iload_n 1, 1) := by decide +kernel
theorem dX7_isLength_93 : decode cX7_isLength 93 = .ok (.iconst 2, 1) := by decide +kernel
theorem dX7_isLength_94 : decode cX7_isLength 94 = .ok (.iload 6, 2) := by decide +kernel
theorem dX7_isLength_96 : decode cX7_isLength 96 = .ok (.imul, 1) := by decide +kernel
theorem dX7_isLength_97 : decode cX7_isLength 97 = .ok (.iadd, 1) := by decide +kernel
theorem dX7_isLength_98 : decode cX7_isLength 98 = .ok (.iconst 1, 1) := by decide +kernel
theorem dX7_isLength_99 : decode cX7_isLength 99 = .ok (.iadd, 1) := by decide +kernel
theorem dX7_isLength_100 : decode cX7_isLength 100 = .ok (.laload, 1) := by decide +kernel
theorem dX7_isLength_101 : decode cX7_isLength 101 = .ok (.lcmp, 1) := by decide +kernel
theorem dX7_isLength_102 : decode cX7_isLength 102 = .ok (.ifCond .ne 7, 3) := by decide +kernel
theorem dX7_isLength_105 : decode cX7_isLength 105 = .ok (.iconst 1, 1) := by decide +kernel
theorem dX7_isLength_106 : decode cX7_isLength 106 = .ok (.goto 4, 3) := by decide +kernel
theorem dX7_isLength_109 : decode cX7_isLength 109 = .ok (.iconst 0, 1) := by decide +kernel
theorem dX7_isLength_110 : decode cX7_isLength 110 = .ok (.istore 4, 2) := by decide +kernel
theorem dX7_isLength_112 : decode cX7_isLength 112 = .ok (.iinc 6 1, 3) := by decide +kernel
theorem dX7_isLength_115 : decode cX7_isLength 115 = .ok (.goto (-100), 3) := by decide +kernel
theorem dX7_isLength_118 : decode cX7_isLength 118 = .ok (.iinc 5 1, 3) := by decide +kernel
theorem dX7_isLength_121 : decode cX7_isLength 121 = .ok (.goto (-115), 3) := by decide +kernel
theorem dX7_isLength_124 : decode cX7_isLength 124 = .ok (.iload 4, 2) := by decide +kernel
theorem dX7_isLength_126 : decode cX7_isLength 126 = .ok (.ireturn, 1) := by decide +kernel
set_option maxRecDepth 20000 in
theorem ggX7_lengths_X7_isSheet : GoodIn wsX7_lengths wsX7_isSheet := goodIn_r _ [8, 9, 10, 11, 7, 12] (by decide +kernel) (by decide +kernel)
set_option maxRecDepth 20000 in
theorem gX7_lengths_X7_isSheet : GoodIn wsX7_lengths (va_wsS RX7 204 yX7_isSheet wsX7_isSheet) := goodIn_app (goodIn_of _ (by decide +kernel)) ggX7_lengths_X7_isSheet
set_option maxRecDepth 20000 in
theorem ggX7_lengths_X7_in : GoodIn wsX7_lengths wsX7_in := goodIn_r _ [12] (by decide +kernel) (by decide +kernel)
set_option maxRecDepth 20000 in
theorem gX7_lengths_X7_in : GoodIn wsX7_lengths (va_wsS RX7 90 yX7_in wsX7_in) := goodIn_app (goodIn_of _ (by decide +kernel)) ggX7_lengths_X7_in
set_option maxRecDepth 20000 in
theorem ggX7_lengths_X7_found : GoodIn wsX7_lengths wsX7_found := goodIn_r _ [16, 17, 18, 23, 24, 25, 26, 27, 28, 29, 30, 31, 32, 33, 34, 35, 36, 37, 38, 39, 40] (by decide +kernel) (by decide +kernel)
set_option maxRecDepth 20000 in
theorem gX7_lengths_X7_found : GoodIn wsX7_lengths (wsV RX7 209 RX7 yX7_found wsX7_found) := goodIn_app (goodIn_of _ (by decide +kernel)) ggX7_lengths_X7_found
set_option maxRecDepth 20000 in
theorem ggX7_lengths_X7_isLength : GoodIn wsX7_lengths wsX7_isLength := goodIn_r _ [22, 2, 23, 24, 25, 26, 27, 28, 29, 30, 31, 32, 33, 34, 35, 36, 37, 38, 39, 40] (by decide +kernel) (by decide +kernel)
set_option maxRecDepth 20000 in
theorem gX7_lengths_X7_isLength : GoodIn wsX7_lengths (wsV RX7 213 RX7 yX7_isLength wsX7_isLength) := goodIn_app (goodIn_of _ (by decide +kernel)) ggX7_lengths_X7_isLength
theorem dX7_lengths_0 : decode cX7_lengths 0 = .ok (.iload_n 1, 1) := by decide +kernel
theorem dX7_lengths_1 : decode cX7_lengths 1 = .ok (.iload_n 2, 1) := by decide +kernel
theorem dX7_lengths_2 : decode cX7_lengths 2 = .ok (.invokestatic 204, 3) := by decide +kernel
theorem dX7_lengths_5 : decode cX7_lengths 5 = .ok (.ifCond .eq 16, 3) := by decide +kernel
theorem dX7_lengths_8 : decode cX7_lengths 8 = .ok (.iload 4, 2) := by decide +kernel
theorem dX7_lengths_10 : decode cX7_lengths 10 = .ok (.i2l, 1) := by decide +kernel
theorem dX7_lengths_11 : decode cX7_lengths 11 = .ok (.lconst 1, 1) := by decide +kernel
theorem dX7_lengths_12 : decode cX7_lengths 12 = .ok (.ldc2_w 207, 3) := by decide +kernel
theorem dX7_lengths_15 : decode cX7_lengths 15 = .ok (.invokestatic 90, 3) := by decide +kernel
theorem dX7_lengths_18 : decode cX7_lengths 18 = .ok (.ifCond .ne 5, 3) := by decide +kernel
theorem dX7_lengths_21 : decode cX7_lengths 21 = .ok (.iconst (-1), 1) := by decide +kernel
theorem dX7_lengths_22 : decode cX7_lengths 22 = .ok (.ireturn, 1) := by decide +kernel
theorem dX7_lengths_23 : decode cX7_lengths 23 = .ok (.aload_n 0, 1) := by decide +kernel
theorem dX7_lengths_24 : decode cX7_lengths 24 = .ok (.iload_n 1, 1) := by decide +kernel
theorem dX7_lengths_25 : decode cX7_lengths 25 = .ok (.iload_n 2, 1) := by decide +kernel
theorem dX7_lengths_26 : decode cX7_lengths 26 = .ok (.iload_n 3, 1) := by decide +kernel
theorem dX7_lengths_27 : decode cX7_lengths 27 = .ok (.iconst 2, 1) := by decide +kernel
theorem dX7_lengths_28 : decode cX7_lengths 28 = .ok (.iload 4, 2) := by decide +kernel
theorem dX7_lengths_30 : decode cX7_lengths 30 = .ok (.imul, 1) := by decide +kernel
theorem dX7_lengths_31 : decode cX7_lengths 31 = .ok (.invokevirtual 209, 3) := by decide +kernel
theorem dX7_lengths_34 : decode cX7_lengths 34 = .ok (.istore 5, 2) := by decide +kernel
theorem dX7_lengths_36 : decode cX7_lengths 36 = .ok (.iload 5, 2) := by decide +kernel
theorem dX7_lengths_38 : decode cX7_lengths 38 = .ok (.ifCond .eq 6, 3) := by decide +kernel
theorem dX7_lengths_41 : decode cX7_lengths 41 = .ok (.iload 5, 2) := by decide +kernel
theorem dX7_lengths_43 : decode cX7_lengths 43 = .ok (.ireturn, 1) := by decide +kernel
theorem dX7_lengths_44 : decode cX7_lengths 44 = .ok (.bipush 30, 2) := by decide +kernel
theorem dX7_lengths_46 : decode cX7_lengths 46 = .ok (.iload_n 1, 1) := by decide +kernel
theorem dX7_lengths_47 : decode cX7_lengths 47 = .ok (.imul, 1) := by decide +kernel
theorem dX7_lengths_48 : decode cX7_lengths 48 = .ok (.iload_n 3, 1) := by decide +kernel
theorem dX7_lengths_49 : decode cX7_lengths 49 = .ok (.iadd, 1) := by decide +kernel
theorem dX7_lengths_50 : decode cX7_lengths 50 = .ok (.istore 6, 2) := by decide +kernel
theorem dX7_lengths_52 : decode cX7_lengths 52 = .ok (.iconst 0, 1) := by decide +kernel
theorem dX7_lengths_53 : decode cX7_lengths 53 = .ok (.istore 7, 2) := by decide +kernel
theorem dX7_lengths_55 : decode cX7_lengths 55 = .ok (.iload 7, 2) := by decide +kernel
theorem dX7_lengths_57 : decode cX7_lengths 57 = .ok (.iload 4, 2) := by decide +kernel
theorem dX7_lengths_59 : decode cX7_lengths 59 = .ok (.if_icmp .ge 58, 3) := by decide +kernel
theorem dX7_lengths_62 : decode cX7_lengths 62 = .ok (.aload_n 0, 1) := by decide +kernel
theorem dX7_lengths_63 : decode cX7_lengths 63 = .ok (.getfield 35, 3) := by decide +kernel
theorem dX7_lengths_66 : decode cX7_lengths 66 = .ok (.iload 6, 2) := by decide +kernel
theorem dX7_lengths_68 : decode cX7_lengths 68 = .ok (.iconst 2, 1) := by decide +kernel
theorem dX7_lengths_69 : decode cX7_lengths 69 = .ok (.iload 7, 2) := by decide +kernel
theorem dX7_lengths_71 : decode cX7_lengths 71 = .ok (.imul, 1) := by decide +kernel
theorem dX7_lengths_72 : decode cX7_lengths 72 = .ok (.iadd, 1) := by decide +kernel
theorem dX7_lengths_73 : decode cX7_lengths 73 = .ok (.laload, 1) := by decide +kernel
theorem dX7_lengths_74 : decode cX7_lengths 74 = .ok (.lconst 0, 1) := by decide +kernel
theorem dX7_lengths_75 : decode cX7_lengths 75 = .ok (.ldc2_w 88, 3) := by decide +kernel
theorem dX7_lengths_78 : decode cX7_lengths 78 = .ok (.invokestatic 90, 3) := by decide +kernel
theorem dX7_lengths_81 : decode cX7_lengths 81 = .ok (.ifCond .eq 27, 3) := by decide +kernel
theorem dX7_lengths_84 : decode cX7_lengths 84 = .ok (.aload_n 0, 1) := by decide +kernel
theorem dX7_lengths_85 : decode cX7_lengths 85 = .ok (.getfield 35, 3) := by decide +kernel
theorem dX7_lengths_88 : decode cX7_lengths 88 = .ok (.iload 6, 2) := by decide +kernel
theorem dX7_lengths_90 : decode cX7_lengths 90 = .ok (.iconst 2, 1) := by decide +kernel
theorem dX7_lengths_91 : decode cX7_lengths 91 = .ok (.iload 7, 2) := by decide +kernel
theorem dX7_lengths_93 : decode cX7_lengths 93 = .ok (.imul, 1) := by decide +kernel
theorem dX7_lengths_94 : decode cX7_lengths 94 = .ok (.iadd, 1) := by decide +kernel
theorem dX7_lengths_95 : decode cX7_lengths 95 = .ok (.iconst 1, 1) := by decide +kernel
theorem dX7_lengths_96 : decode cX7_lengths 96 = .ok (.iadd, 1) := by decide +kernel
theorem dX7_lengths_97 : decode cX7_lengths 97 = .ok (.laload, 1) := by decide +kernel
theorem dX7_lengths_98 : decode cX7_lengths 98 = .ok (.lconst 0, 1) := by decide +kernel
theorem dX7_lengths_99 : decode cX7_lengths 99 = .ok (.ldc2_w 116, 3) := by decide +kernel
theorem dX7_lengths_102 : decode cX7_lengths 102 = .ok (.invokestatic 90, 3) := by decide +kernel
theorem dX7_lengths_105 : decode cX7_lengths 105 = .ok (.ifCond .ne 6, 3) := by decide +kernel
theorem dX7_lengths_108 : decode cX7_lengths 108 = .ok (.bipush (-2), 2) := by decide +kernel
theorem dX7_lengths_110 : decode cX7_lengths 110 = .ok (.ireturn, 1) := by decide +kernel
theorem dX7_lengths_111 : decode cX7_lengths 111 = .ok (.iinc 7 1, 3) := by decide +kernel
theorem dX7_lengths_114 : decode cX7_lengths 114 = .ok (.goto (-59), 3) := by decide +kernel
theorem dX7_lengths_117 : decode cX7_lengths 117 = .ok (.iconst 0, 1) := by decide +kernel
theorem dX7_lengths_118 : decode cX7_lengths 118 = .ok (.istore 7, 2) := by decide +kernel
theorem dX7_lengths_120 : decode cX7_lengths 120 = .ok (.iconst 0, 1) := by decide +kernel
theorem dX7_lengths_121 : decode cX7_lengths 121 = .ok (.istore 8, 2) := by decide +kernel
theorem dX7_lengths_123 : decode cX7_lengths 123 = .ok (.iload 8, 2) := by decide +kernel
theorem dX7_lengths_125 : decode cX7_lengths 125 = .ok (.bipush 8, 2) := by decide +kernel
theorem dX7_lengths_127 : decode cX7_lengths 127 = .ok (.if_icmp .gt 35, 3) := by decide +kernel
theorem dX7_lengths_130 : decode cX7_lengths 130 = .ok (.iload 7, 2) := by decide +kernel
theorem dX7_lengths_132 : decode cX7_lengths 132 = .ok (.aload_n 0, 1) := by decide +kernel
theorem dX7_lengths_133 : decode cX7_lengths 133 = .ok (.iload 6, 2) := by decide +kernel
theorem dX7_lengths_135 : decode cX7_lengths 135 = .ok (.iload 4, 2) := by decide +kernel
theorem dX7_lengths_137 : decode cX7_lengths 137 = .ok (.iload 8, 2) := by decide +kernel
theorem dX7_lengths_139 : decode cX7_lengths 139 = .ok (.invokevirtual 213, 3) := by decide +kernel
theorem dX7_lengths_142 : decode cX7_lengths 142 = .ok (.ifCond .eq 10, 3) := by decide +kernel
theorem dX7_lengths_145 : decode cX7_lengths 145 = .ok (.iconst 1, 1) := by decide +kernel
theorem dX7_lengths_146 : decode cX7_lengths 146 = .ok (.iload 8, 2) := by decide +kernel
theorem dX7_lengths_148 : decode cX7_lengths 148 = .ok (.ishl, 1) := by decide +kernel
theorem dX7_lengths_149 : decode cX7_lengths 149 = .ok (.goto 4, 3) := by decide +kernel
theorem dX7_lengths_152 : decode cX7_lengths 152 = .ok (.iconst 0, 1) := by decide +kernel
theorem dX7_lengths_153 : decode cX7_lengths 153 = .ok (.ior, 1) := by decide +kernel
theorem dX7_lengths_154 : decode cX7_lengths 154 = .ok (.istore 7, 2) := by decide +kernel
theorem dX7_lengths_156 : decode cX7_lengths 156 = .ok (.iinc 8 1, 3) := by decide +kernel
theorem dX7_lengths_159 : decode cX7_lengths 159 = .ok (.goto (-36), 3) := by decide +kernel
theorem dX7_lengths_162 : decode cX7_lengths 162 = .ok (.iload 7, 2) := by decide +kernel
theorem dX7_lengths_164 : decode cX7_lengths 164 = .ok (.ireturn, 1) := by decide +kernel
theorem dX7_lowest_0 : decode cX7_lowest 0 = .ok (.iload_n 2, 1) := by decide +kernel
theorem dX7_lowest_1 : decode cX7_lowest 1 = .ok (.ifCond .ne 13, 3) := by decide +kernel
theorem dX7_lowest_4 : decode cX7_lowest 4 = .ok (.lload_n 0, 1) := by decide +kernel
theorem dX7_lowest_5 : decode cX7_lowest 5 = .ok (.bipush 56, 2) := by decide +kernel
theorem dX7_lowest_7 : decode cX7_lowest 7 = .ok (.lshl, 1) := by decide +kernel
theorem dX7_lowest_8 : decode cX7_lowest 8 = .ok (.bipush 56, 2) := by decide +kernel
theorem dX7_lowest_10 : decode cX7_lowest 10 = .ok (.lshr, 1) := by decide +kernel
theorem dX7_lowest_11 : decode cX7_lowest 11 = .ok (.goto 34, 3) := by decide +kernel
theorem dX7_lowest_14 : decode cX7_lowest 14 = .ok (.iload_n 2, 1) := by decide +kernel
theorem dX7_lowest_15 : decode cX7_lowest 15 = .ok (.iconst 1, 1) := by decide +kernel
theorem dX7_lowest_16 : decode cX7_lowest 16 = .ok (.if_icmp .ne 13, 3) := by decide +kernel
theorem dX7_lowest_19 : decode cX7_lowest 19 = .ok (.lload_n 0, 1) := by decide +kernel
theorem dX7_lowest_20 : decode cX7_lowest 20 = .ok (.bipush 48, 2) := by decide +kernel
theorem dX7_lowest_22 : decode cX7_lowest 22 = .ok (.lshl, 1) := by decide +kernel
theorem dX7_lowest_23 : decode cX7_lowest 23 = .ok (.bipush 48, 2) := by decide +kernel
theorem dX7_lowest_25 : decode cX7_lowest 25 = .ok (.lshr, 1) := by decide +kernel
theorem dX7_lowest_26 : decode cX7_lowest 26 = .ok (.goto 19, 3) := by decide +kernel
theorem dX7_lowest_29 : decode cX7_lowest 29 = .ok (.iload_n 2, 1) := by decide +kernel
theorem dX7_lowest_30 : decode cX7_lowest 30 = .ok (.iconst 2, 1) := by decide +kernel
theorem dX7_lowest_31 : decode cX7_lowest 31 = .ok (.if_icmp .ne 13, 3) := by decide +kernel
theorem dX7_lowest_34 : decode cX7_lowest 34 = .ok (.lload_n 0, 1) := by decide +kernel
theorem dX7_lowest_35 : decode cX7_lowest 35 = .ok (.bipush 32, 2) := by decide +kernel
theorem dX7_lowest_37 : decode cX7_lowest 37 = .ok (.lshl, 1) := by decide +kernel
theorem dX7_lowest_38 : decode cX7_lowest 38 = .ok (.bipush 32, 2) := by decide +kernel
theorem dX7_lowest_40 : decode cX7_lowest 40 = .ok (.lshr, 1) := by decide +kernel
theorem dX7_lowest_41 : decode cX7_lowest 41 = .ok (.goto 4, 3) := by decide +kernel
theorem dX7_lowest_44 : decode cX7_lowest 44 = .ok (.lload_n 0, 1) := by decide +kernel
theorem dX7_lowest_45 : decode cX7_lowest 45 = .ok (.lreturn, 1) := by decide +kernel
set_option maxRecDepth 20000 in
theorem ggX7_film_X7_in : GoodIn wsX7_film wsX7_in := goodIn_r _ [7] (by decide +kernel) (by decide +kernel)
set_option maxRecDepth 20000 in
theorem gX7_film_X7_in : GoodIn wsX7_film (va_wsS RX7 90 yX7_in wsX7_in) := goodIn_app (goodIn_of _ (by decide +kernel)) ggX7_film_X7_in
set_option maxRecDepth 20000 in
theorem ggX7_film_X7_isSheet : GoodIn wsX7_film wsX7_isSheet := goodIn_r _ [10, 11, 4, 5, 6, 7] (by decide +kernel) (by decide +kernel)
set_option maxRecDepth 20000 in
theorem gX7_film_X7_isSheet : GoodIn wsX7_film (va_wsS RX7 204 yX7_isSheet wsX7_isSheet) := goodIn_app (goodIn_of _ (by decide +kernel)) ggX7_film_X7_isSheet
set_option maxRecDepth 20000 in
theorem ggX7_film_X7_lays : GoodIn wsX7_film wsX7_lays := goodIn_r _ [15, 16, 17, 18, 6, 19, 20, 21, 22, 23, 24, 25, 26, 27, 28, 29, 30, 31, 32, 33, 34, 35, 36, 37, 38, 39, 40, 2, 41, 42, 43, 44, 45, 46, 47, 48, 65, 66, 67, 68, 69, 70, 71, 72, 73, 74, 75, 76, 77, 78, 79, 80, 81, 82] (by decide +kernel) (by decide +kernel)
set_option maxRecDepth 20000 in
theorem gX7_film_X7_lays : GoodIn wsX7_film (wsV RX7 96 RX7 yX7_lays wsX7_lays) := goodIn_app (goodIn_of _ (by decide +kernel)) ggX7_film_X7_lays
set_option maxRecDepth 20000 in
theorem ggX7_film_X7_many : GoodIn wsX7_film wsX7_many := goodIn_r _ [51] (by decide +kernel) (by decide +kernel)
set_option maxRecDepth 20000 in
theorem gX7_film_X7_many : GoodIn wsX7_film (va_wsS RX7 138 yX7_many wsX7_many) := goodIn_app (goodIn_of _ (by decide +kernel)) ggX7_film_X7_many
set_option maxRecDepth 20000 in
theorem ggX7_film_X7_found : GoodIn wsX7_film wsX7_found := goodIn_r _ [55, 56, 57, 65, 66, 67, 68, 69, 70, 71, 72, 73, 74, 75, 76, 77, 78, 79, 80, 81, 82] (by decide +kernel) (by decide +kernel)
set_option maxRecDepth 20000 in
theorem gX7_film_X7_found : GoodIn wsX7_film (wsV RX7 209 RX7 yX7_found wsX7_found) := goodIn_app (goodIn_of _ (by decide +kernel)) ggX7_film_X7_found
set_option maxRecDepth 20000 in
theorem ggX7_film_X7_leastAt : GoodIn wsX7_film wsX7_leastAt := goodIn_r _ [61, 2, 65, 66, 67, 68, 69, 70, 71, 72, 73, 74, 75, 76, 77, 78, 79, 80, 81, 82] (by decide +kernel) (by decide +kernel)
set_option maxRecDepth 20000 in
theorem gX7_film_X7_leastAt : GoodIn wsX7_film (wsV RX7 118 RX7 yX7_leastAt wsX7_leastAt) := goodIn_app (goodIn_of _ (by decide +kernel)) ggX7_film_X7_leastAt
set_option maxRecDepth 20000 in
theorem ggX7_film_X7_lowest : GoodIn wsX7_film wsX7_lowest := goodIn_r _ [64] (by decide +kernel) (by decide +kernel)
set_option maxRecDepth 20000 in
theorem gX7_film_X7_lowest : GoodIn wsX7_film (va_wsS RX7 217 yX7_lowest wsX7_lowest) := goodIn_app (goodIn_of _ (by decide +kernel)) ggX7_film_X7_lowest
theorem dX7_film_0 : decode cX7_film 0 = .ok (.iload_n 1, 1) := by decide +kernel
theorem dX7_film_1 : decode cX7_film 1 = .ok (.ifCond .lt 24, 3) := by decide +kernel
theorem dX7_film_4 : decode cX7_film 4 = .ok (.iload_n 2, 1) := by decide +kernel
theorem dX7_film_5 : decode cX7_film 5 = .ok (.i2l, 1) := by decide +kernel
theorem dX7_film_6 : decode cX7_film 6 = .ok (.lconst 0, 1) := by decide +kernel
theorem dX7_film_7 : decode cX7_film 7 = .ok (.ldc2_w 207, 3) := by decide +kernel
theorem dX7_film_10 : decode cX7_film 10 = .ok (.invokestatic 90, 3) := by decide +kernel
theorem dX7_film_13 : decode cX7_film 13 = .ok (.ifCond .eq 12, 3) := by decide +kernel
theorem dX7_film_16 : decode cX7_film 16 = .ok (.iload_n 3, 1) := by decide +kernel
theorem dX7_film_17 : decode cX7_film 17 = .ok (.iload 4, 2) := by decide +kernel
theorem dX7_film_19 : decode cX7_film 19 = .ok (.invokestatic 204, 3) := by decide +kernel
theorem dX7_film_22 : decode cX7_film 22 = .ok (.ifCond .ne 5, 3) := by decide +kernel
theorem dX7_film_25 : decode cX7_film 25 = .ok (.iconst (-1), 1) := by decide +kernel
theorem dX7_film_26 : decode cX7_film 26 = .ok (.ireturn, 1) := by decide +kernel
theorem dX7_film_27 : decode cX7_film 27 = .ok (.aload_n 0, 1) := by decide +kernel
theorem dX7_film_28 : decode cX7_film 28 = .ok (.invokevirtual 96, 3) := by decide +kernel
theorem dX7_film_31 : decode cX7_film 31 = .ok (.iload_n 1, 1) := by decide +kernel
theorem dX7_film_32 : decode cX7_film 32 = .ok (.aload_n 0, 1) := by decide +kernel
theorem dX7_film_33 : decode cX7_film 33 = .ok (.getfield 39, 3) := by decide +kernel
theorem dX7_film_36 : decode cX7_film 36 = .ok (.iconst 0, 1) := by decide +kernel
theorem dX7_film_37 : decode cX7_film 37 = .ok (.invokestatic 138, 3) := by decide +kernel
theorem dX7_film_40 : decode cX7_film 40 = .ok (.iload_n 2, 1) := by decide +kernel
theorem dX7_film_41 : decode cX7_film 41 = .ok (.isub, 1) := by decide +kernel
theorem dX7_film_42 : decode cX7_film 42 = .ok (.if_icmp .le 6, 3) := by decide +kernel
theorem dX7_film_45 : decode cX7_film 45 = .ok (.bipush (-2), 2) := by decide +kernel
theorem dX7_film_47 : decode cX7_film 47 = .ok (.ireturn, 1) := by decide +kernel
theorem dX7_film_48 : decode cX7_film 48 = .ok (.aload_n 0, 1) := by decide +kernel
theorem dX7_film_49 : decode cX7_film 49 = .ok (.iload_n 3, 1) := by decide +kernel
theorem dX7_film_50 : decode cX7_film 50 = .ok (.iload 4, 2) := by decide +kernel
theorem dX7_film_52 : decode cX7_film 52 = .ok (.iload 5, 2) := by decide +kernel
theorem dX7_film_54 : decode cX7_film 54 = .ok (.iconst 2, 1) := by decide +kernel
theorem dX7_film_55 : decode cX7_film 55 = .ok (.iload_n 2, 1) := by decide +kernel
theorem dX7_film_56 : decode cX7_film 56 = .ok (.imul, 1) := by decide +kernel
theorem dX7_film_57 : decode cX7_film 57 = .ok (.invokevirtual 209, 3) := by decide +kernel
theorem dX7_film_60 : decode cX7_film 60 = .ok (.istore 6, 2) := by decide +kernel
theorem dX7_film_62 : decode cX7_film 62 = .ok (.iload 6, 2) := by decide +kernel
theorem dX7_film_64 : decode cX7_film 64 = .ok (.ifCond .eq 6, 3) := by decide +kernel
theorem dX7_film_67 : decode cX7_film 67 = .ok (.iload 6, 2) := by decide +kernel
theorem dX7_film_69 : decode cX7_film 69 = .ok (.ireturn, 1) := by decide +kernel
theorem dX7_film_70 : decode cX7_film 70 = .ok (.iconst 0, 1) := by decide +kernel
theorem dX7_film_71 : decode cX7_film 71 = .ok (.istore 7, 2) := by decide +kernel
theorem dX7_film_73 : decode cX7_film 73 = .ok (.iload 7, 2) := by decide +kernel
theorem dX7_film_75 : decode cX7_film 75 = .ok (.iload_n 2, 1) := by decide +kernel
theorem dX7_film_76 : decode cX7_film 76 = .ok (.if_icmp .ge 71, 3) := by decide +kernel
theorem dX7_film_79 : decode cX7_film 79 = .ok (.aload_n 0, 1) := by decide +kernel
theorem dX7_film_80 : decode cX7_film 80 = .ok (.iload_n 1, 1) := by decide +kernel
theorem dX7_film_81 : decode cX7_film 81 = .ok (.iload 7, 2) := by decide +kernel
theorem dX7_film_83 : decode cX7_film 83 = .ok (.iadd, 1) := by decide +kernel
theorem dX7_film_84 : decode cX7_film 84 = .ok (.invokevirtual 118, 3) := by decide +kernel
theorem dX7_film_87 : decode cX7_film 87 = .ok (.istore 8, 2) := by decide +kernel
theorem dX7_film_89 : decode cX7_film 89 = .ok (.aload_n 0, 1) := by decide +kernel
theorem dX7_film_90 : decode cX7_film 90 = .ok (.getfield 35, 3) := by decide +kernel
theorem dX7_film_93 : decode cX7_film 93 = .ok (.bipush 30, 2) := by decide +kernel
theorem dX7_film_95 : decode cX7_film 95 = .ok (.iload_n 3, 1) := by decide +kernel
theorem dX7_film_96 : decode cX7_film 96 = .ok (.imul, 1) := by decide +kernel
theorem dX7_film_97 : decode cX7_film 97 = .ok (.iload 5, 2) := by decide +kernel
theorem dX7_film_99 : decode cX7_film 99 = .ok (.iadd, 1) := by decide +kernel
theorem dX7_film_100 : decode cX7_film 100 = .ok (.iconst 2, 1) := by decide +kernel
theorem dX7_film_101 : decode cX7_film 101 = .ok (.iload 7, 2) := by decide +kernel
theorem dX7_film_103 : decode cX7_film 103 = .ok (.imul, 1) := by decide +kernel
theorem dX7_film_104 : decode cX7_film 104 = .ok (.iadd, 1) := by decide +kernel
theorem dX7_film_105 : decode cX7_film 105 = .ok (.iload 8, 2) := by decide +kernel
theorem dX7_film_107 : decode cX7_film 107 = .ok (.i2l, 1) := by decide +kernel
theorem dX7_film_108 : decode cX7_film 108 = .ok (.iload 4, 2) := by decide +kernel
theorem dX7_film_110 : decode cX7_film 110 = .ok (.invokestatic 217, 3) := by decide +kernel
theorem dX7_film_113 : decode cX7_film 113 = .ok (.lastore, 1) := by decide +kernel
theorem dX7_film_114 : decode cX7_film 114 = .ok (.aload_n 0, 1) := by decide +kernel
theorem dX7_film_115 : decode cX7_film 115 = .ok (.getfield 35, 3) := by decide +kernel
theorem dX7_film_118 : decode cX7_film 118 = .ok (.bipush 30, 2) := by decide +kernel
theorem dX7_film_120 : decode cX7_film 120 = .ok (.iload_n 3, 1) := by decide +kernel
theorem dX7_film_121 : decode cX7_film 121 = .ok (.imul, 1) := by decide +kernel
theorem dX7_film_122 : decode cX7_film 122 = .ok (.iload 5, 2) := by decide +kernel
theorem dX7_film_124 : decode cX7_film 124 = .ok (.iadd, 1) := by decide +kernel
theorem dX7_film_125 : decode cX7_film 125 = .ok (.iconst 2, 1) := by decide +kernel
theorem dX7_film_126 : decode cX7_film 126 = .ok (.iload 7, 2) := by decide +kernel
theorem dX7_film_128 : decode cX7_film 128 = .ok (.imul, 1) := by decide +kernel
theorem dX7_film_129 : decode cX7_film 129 = .ok (.iadd, 1) := by decide +kernel
theorem dX7_film_130 : decode cX7_film 130 = .ok (.iconst 1, 1) := by decide +kernel
theorem dX7_film_131 : decode cX7_film 131 = .ok (.iadd, 1) := by decide +kernel
theorem dX7_film_132 : decode cX7_film 132 = .ok (.aload_n 0, 1) := by decide +kernel
theorem dX7_film_133 : decode cX7_film 133 = .ok (.getfield 39, 3) := by decide +kernel
theorem dX7_film_136 : decode cX7_film 136 = .ok (.iload 8, 2) := by decide +kernel
theorem dX7_film_138 : decode cX7_film 138 = .ok (.iaload, 1) := by decide +kernel
theorem dX7_film_139 : decode cX7_film 139 = .ok (.i2l, 1) := by decide +kernel
theorem dX7_film_140 : decode cX7_film 140 = .ok (.lastore, 1) := by decide +kernel
theorem dX7_film_141 : decode cX7_film 141 = .ok (.iinc 7 1, 3) := by decide +kernel
theorem dX7_film_144 : decode cX7_film 144 = .ok (.goto (-71), 3) := by decide +kernel
theorem dX7_film_147 : decode cX7_film 147 = .ok (.iconst 2, 1) := by decide +kernel
theorem dX7_film_148 : decode cX7_film 148 = .ok (.iload_n 2, 1) := by decide +kernel
theorem dX7_film_149 : decode cX7_film 149 = .ok (.imul, 1) := by decide +kernel
theorem dX7_film_150 : decode cX7_film 150 = .ok (.ireturn, 1) := by decide +kernel
set_option maxRecDepth 20000 in
theorem ggX7_sheet_X7_isSheet : GoodIn wsX7_sheet wsX7_isSheet := goodIn_r _ [7, 8, 9, 10, 6, 11] (by decide +kernel) (by decide +kernel)
set_option maxRecDepth 20000 in
theorem gX7_sheet_X7_isSheet : GoodIn wsX7_sheet (va_wsS RX7 204 yX7_isSheet wsX7_isSheet) := goodIn_app (goodIn_of _ (by decide +kernel)) ggX7_sheet_X7_isSheet
theorem dX7_sheet_0 : decode cX7_sheet 0 = .ok (.iload_n 1, 1) := by decide +kernel
theorem dX7_sheet_1 : decode cX7_sheet 1 = .ok (.iload_n 2, 1) := by decide +kernel
theorem dX7_sheet_2 : decode cX7_sheet 2 = .ok (.invokestatic 204, 3) := by decide +kernel
theorem dX7_sheet_5 : decode cX7_sheet 5 = .ok (.ifCond .eq 9, 3) := by decide +kernel
theorem dX7_sheet_8 : decode cX7_sheet 8 = .ok (.iload_n 3, 1) := by decide +kernel
theorem dX7_sheet_9 : decode cX7_sheet 9 = .ok (.bipush 30, 2) := by decide +kernel
theorem dX7_sheet_11 : decode cX7_sheet 11 = .ok (.if_icmp .le 5, 3) := by decide +kernel
theorem dX7_sheet_14 : decode cX7_sheet 14 = .ok (.iconst (-1), 1) := by decide +kernel
theorem dX7_sheet_15 : decode cX7_sheet 15 = .ok (.ireturn, 1) := by decide +kernel
theorem dX7_sheet_16 : decode cX7_sheet 16 = .ok (.iload_n 3, 1) := by decide +kernel
theorem dX7_sheet_17 : decode cX7_sheet 17 = .ok (.ifCond .ge 6, 3) := by decide +kernel
theorem dX7_sheet_20 : decode cX7_sheet 20 = .ok (.bipush (-14), 2) := by decide +kernel
theorem dX7_sheet_22 : decode cX7_sheet 22 = .ok (.ireturn, 1) := by decide +kernel
theorem dX7_sheet_23 : decode cX7_sheet 23 = .ok (.aload_n 0, 1) := by decide +kernel
theorem dX7_sheet_24 : decode cX7_sheet 24 = .ok (.getfield 29, 3) := by decide +kernel
theorem dX7_sheet_27 : decode cX7_sheet 27 = .ok (.iload_n 1, 1) := by decide +kernel
theorem dX7_sheet_28 : decode cX7_sheet 28 = .ok (.iload_n 2, 1) := by decide +kernel
theorem dX7_sheet_29 : decode cX7_sheet 29 = .ok (.iastore, 1) := by decide +kernel
theorem dX7_sheet_30 : decode cX7_sheet 30 = .ok (.aload_n 0, 1) := by decide +kernel
theorem dX7_sheet_31 : decode cX7_sheet 31 = .ok (.getfield 32, 3) := by decide +kernel
theorem dX7_sheet_34 : decode cX7_sheet 34 = .ok (.iload_n 1, 1) := by decide +kernel
theorem dX7_sheet_35 : decode cX7_sheet 35 = .ok (.iload_n 3, 1) := by decide +kernel
theorem dX7_sheet_36 : decode cX7_sheet 36 = .ok (.iastore, 1) := by decide +kernel
theorem dX7_sheet_37 : decode cX7_sheet 37 = .ok (.iconst 0, 1) := by decide +kernel
theorem dX7_sheet_38 : decode cX7_sheet 38 = .ok (.istore 4, 2) := by decide +kernel
theorem dX7_sheet_40 : decode cX7_sheet 40 = .ok (.iload 4, 2) := by decide +kernel
theorem dX7_sheet_42 : decode cX7_sheet 42 = .ok (.iload_n 3, 1) := by decide +kernel
theorem dX7_sheet_43 : decode cX7_sheet 43 = .ok (.if_icmp .ge 22, 3) := by decide +kernel
theorem dX7_sheet_46 : decode cX7_sheet 46 = .ok (.aload_n 0, 1) := by decide +kernel
theorem dX7_sheet_47 : decode cX7_sheet 47 = .ok (.getfield 35, 3) := by decide +kernel
theorem dX7_sheet_50 : decode cX7_sheet 50 = .ok (.bipush 30, 2) := by decide +kernel
theorem dX7_sheet_52 : decode cX7_sheet 52 = .ok (.iload_n 1, 1) := by decide +kernel
theorem dX7_sheet_53 : decode cX7_sheet 53 = .ok (.imul, 1) := by decide +kernel
theorem dX7_sheet_54 : decode cX7_sheet 54 = .ok (.iload 4, 2) := by decide +kernel
theorem dX7_sheet_56 : decode cX7_sheet 56 = .ok (.iadd, 1) := by decide +kernel
theorem dX7_sheet_57 : decode cX7_sheet 57 = .ok (.lconst 0, 1) := by decide +kernel
theorem dX7_sheet_58 : decode cX7_sheet 58 = .ok (.lastore, 1) := by decide +kernel
theorem dX7_sheet_59 : decode cX7_sheet 59 = .ok (.iinc 4 1, 3) := by decide +kernel
theorem dX7_sheet_62 : decode cX7_sheet 62 = .ok (.goto (-22), 3) := by decide +kernel
theorem dX7_sheet_65 : decode cX7_sheet 65 = .ok (.iload_n 3, 1) := by decide +kernel
theorem dX7_sheet_66 : decode cX7_sheet 66 = .ok (.ireturn, 1) := by decide +kernel
set_option maxRecDepth 20000 in
theorem ggX7_drop_X7_in : GoodIn wsX7_drop wsX7_in := goodIn_r _ [7] (by decide +kernel) (by decide +kernel)
set_option maxRecDepth 20000 in
theorem gX7_drop_X7_in : GoodIn wsX7_drop (va_wsS RX7 90 yX7_in wsX7_in) := goodIn_app (goodIn_of _ (by decide +kernel)) ggX7_drop_X7_in
theorem dX7_drop_0 : decode cX7_drop 0 = .ok (.iload_n 1, 1) := by decide +kernel
theorem dX7_drop_1 : decode cX7_drop 1 = .ok (.i2l, 1) := by decide +kernel
theorem dX7_drop_2 : decode cX7_drop 2 = .ok (.lconst 0, 1) := by decide +kernel
theorem dX7_drop_3 : decode cX7_drop 3 = .ok (.ldc2_w 94, 3) := by decide +kernel
theorem dX7_drop_6 : decode cX7_drop 6 = .ok (.invokestatic 90, 3) := by decide +kernel
theorem dX7_drop_9 : decode cX7_drop 9 = .ok (.ifCond .ne 5, 3) := by decide +kernel
theorem dX7_drop_12 : decode cX7_drop 12 = .ok (.iconst (-1), 1) := by decide +kernel
theorem dX7_drop_13 : decode cX7_drop 13 = .ok (.ireturn, 1) := by decide +kernel
theorem dX7_drop_14 : decode cX7_drop 14 = .ok (.aload_n 0, 1) := by decide +kernel
theorem dX7_drop_15 : decode cX7_drop 15 = .ok (.getfield 29, 3) := by decide +kernel
theorem dX7_drop_18 : decode cX7_drop 18 = .ok (.iload_n 1, 1) := by decide +kernel
theorem dX7_drop_19 : decode cX7_drop 19 = .ok (.iaload, 1) := by decide +kernel
theorem dX7_drop_20 : decode cX7_drop 20 = .ok (.ifCond .ge 6, 3) := by decide +kernel
theorem dX7_drop_23 : decode cX7_drop 23 = .ok (.bipush (-11), 2) := by decide +kernel
theorem dX7_drop_25 : decode cX7_drop 25 = .ok (.ireturn, 1) := by decide +kernel
theorem dX7_drop_26 : decode cX7_drop 26 = .ok (.aload_n 0, 1) := by decide +kernel
theorem dX7_drop_27 : decode cX7_drop 27 = .ok (.getfield 29, 3) := by decide +kernel
theorem dX7_drop_30 : decode cX7_drop 30 = .ok (.iload_n 1, 1) := by decide +kernel
theorem dX7_drop_31 : decode cX7_drop 31 = .ok (.bipush (-4), 2) := by decide +kernel
theorem dX7_drop_33 : decode cX7_drop 33 = .ok (.iastore, 1) := by decide +kernel
theorem dX7_drop_34 : decode cX7_drop 34 = .ok (.aload_n 0, 1) := by decide +kernel
theorem dX7_drop_35 : decode cX7_drop 35 = .ok (.getfield 32, 3) := by decide +kernel
theorem dX7_drop_38 : decode cX7_drop 38 = .ok (.iload_n 1, 1) := by decide +kernel
theorem dX7_drop_39 : decode cX7_drop 39 = .ok (.iaload, 1) := by decide +kernel
theorem dX7_drop_40 : decode cX7_drop 40 = .ok (.ireturn, 1) := by decide +kernel
set_option maxRecDepth 20000 in
theorem ggX7_item_X7_isSheet : GoodIn wsX7_item wsX7_isSheet := goodIn_r _ [5, 6, 7, 8, 4, 9] (by decide +kernel) (by decide +kernel)
set_option maxRecDepth 20000 in
theorem gX7_item_X7_isSheet : GoodIn wsX7_item (va_wsS RX7 204 yX7_isSheet wsX7_isSheet) := goodIn_app (goodIn_of _ (by decide +kernel)) ggX7_item_X7_isSheet
set_option maxRecDepth 20000 in
theorem ggX7_item_X7_found : GoodIn wsX7_item wsX7_found := goodIn_r _ [13, 14, 15, 19, 20, 21, 22, 23, 24, 25, 26, 27, 28, 29, 30, 31, 32, 33, 34, 35, 36] (by decide +kernel) (by decide +kernel)
set_option maxRecDepth 20000 in
theorem gX7_item_X7_found : GoodIn wsX7_item (wsV RX7 209 RX7 yX7_found wsX7_found) := goodIn_app (goodIn_of _ (by decide +kernel)) ggX7_item_X7_found
set_option maxRecDepth 20000 in
theorem ggX7_item_X7_lowest : GoodIn wsX7_item wsX7_lowest := goodIn_r _ [18] (by decide +kernel) (by decide +kernel)
set_option maxRecDepth 20000 in
theorem gX7_item_X7_lowest : GoodIn wsX7_item (va_wsS RX7 217 yX7_lowest wsX7_lowest) := goodIn_app (goodIn_of _ (by decide +kernel)) ggX7_item_X7_lowest
theorem dX7_item_0 : decode cX7_item 0 = .ok (.iload_n 1, 1) := by decide +kernel
theorem dX7_item_1 : decode cX7_item 1 = .ok (.iload_n 2, 1) := by decide +kernel
theorem dX7_item_2 : decode cX7_item 2 = .ok (.invokestatic 204, 3) := by decide +kernel
theorem dX7_item_5 : decode cX7_item 5 = .ok (.ifCond .ne 5, 3) := by decide +kernel
theorem dX7_item_8 : decode cX7_item 8 = .ok (.iconst (-1), 1) := by decide +kernel
theorem dX7_item_9 : decode cX7_item 9 = .ok (.ireturn, 1) := by decide +kernel
theorem dX7_item_10 : decode cX7_item 10 = .ok (.aload_n 0, 1) := by decide +kernel
theorem dX7_item_11 : decode cX7_item 11 = .ok (.iload_n 1, 1) := by decide +kernel
theorem dX7_item_12 : decode cX7_item 12 = .ok (.iload_n 2, 1) := by decide +kernel
theorem dX7_item_13 : decode cX7_item 13 = .ok (.iload_n 3, 1) := by decide +kernel
theorem dX7_item_14 : decode cX7_item 14 = .ok (.iconst 1, 1) := by decide +kernel
theorem dX7_item_15 : decode cX7_item 15 = .ok (.invokevirtual 209, 3) := by decide +kernel
theorem dX7_item_18 : decode cX7_item 18 = .ok (.istore 6, 2) := by decide +kernel
theorem dX7_item_20 : decode cX7_item 20 = .ok (.iload 6, 2) := by decide +kernel
theorem dX7_item_22 : decode cX7_item 22 = .ok (.ifCond .eq 6, 3) := by decide +kernel
theorem dX7_item_25 : decode cX7_item 25 = .ok (.iload 6, 2) := by decide +kernel
theorem dX7_item_27 : decode cX7_item 27 = .ok (.ireturn, 1) := by decide +kernel
theorem dX7_item_28 : decode cX7_item 28 = .ok (.aload_n 0, 1) := by decide +kernel
theorem dX7_item_29 : decode cX7_item 29 = .ok (.getfield 35, 3) := by decide +kernel
theorem dX7_item_32 : decode cX7_item 32 = .ok (.bipush 30, 2) := by decide +kernel
theorem dX7_item_34 : decode cX7_item 34 = .ok (.iload_n 1, 1) := by decide +kernel
theorem dX7_item_35 : decode cX7_item 35 = .ok (.imul, 1) := by decide +kernel
theorem dX7_item_36 : decode cX7_item 36 = .ok (.iload_n 3, 1) := by decide +kernel
theorem dX7_item_37 : decode cX7_item 37 = .ok (.iadd, 1) := by decide +kernel
theorem dX7_item_38 : decode cX7_item 38 = .ok (.lload 4, 2) := by decide +kernel
theorem dX7_item_40 : decode cX7_item 40 = .ok (.iload_n 2, 1) := by decide +kernel
theorem dX7_item_41 : decode cX7_item 41 = .ok (.invokestatic 217, 3) := by decide +kernel
theorem dX7_item_44 : decode cX7_item 44 = .ok (.lastore, 1) := by decide +kernel
theorem dX7_item_45 : decode cX7_item 45 = .ok (.iconst 1, 1) := by decide +kernel
theorem dX7_item_46 : decode cX7_item 46 = .ok (.ireturn, 1) := by decide +kernel
set_option maxRecDepth 20000 in
theorem ggX7_copy_X7_in : GoodIn wsX7_copy wsX7_in := goodIn_r _ [8] (by decide +kernel) (by decide +kernel)
set_option maxRecDepth 20000 in
theorem gX7_copy_X7_in : GoodIn wsX7_copy (va_wsS RX7 90 yX7_in wsX7_in) := goodIn_app (goodIn_of _ (by decide +kernel)) ggX7_copy_X7_in
theorem dX7_copy_0 : decode cX7_copy 0 = .ok (.iload_n 1, 1) := by decide +kernel
theorem dX7_copy_1 : decode cX7_copy 1 = .ok (.i2l, 1) := by decide +kernel
theorem dX7_copy_2 : decode cX7_copy 2 = .ok (.lconst 0, 1) := by decide +kernel
theorem dX7_copy_3 : decode cX7_copy 3 = .ok (.ldc2_w 94, 3) := by decide +kernel
theorem dX7_copy_6 : decode cX7_copy 6 = .ok (.invokestatic 90, 3) := by decide +kernel
theorem dX7_copy_9 : decode cX7_copy 9 = .ok (.ifCond .eq 15, 3) := by decide +kernel
theorem dX7_copy_12 : decode cX7_copy 12 = .ok (.iload_n 3, 1) := by decide +kernel
theorem dX7_copy_13 : decode cX7_copy 13 = .ok (.i2l, 1) := by decide +kernel
theorem dX7_copy_14 : decode cX7_copy 14 = .ok (.lconst 0, 1) := by decide +kernel
theorem dX7_copy_15 : decode cX7_copy 15 = .ok (.ldc2_w 94, 3) := by decide +kernel
theorem dX7_copy_18 : decode cX7_copy 18 = .ok (.invokestatic 90, 3) := by decide +kernel
theorem dX7_copy_21 : decode cX7_copy 21 = .ok (.ifCond .ne 5, 3) := by decide +kernel
theorem dX7_copy_24 : decode cX7_copy 24 = .ok (.iconst (-1), 1) := by decide +kernel
theorem dX7_copy_25 : decode cX7_copy 25 = .ok (.ireturn, 1) := by decide +kernel
theorem dX7_copy_26 : decode cX7_copy 26 = .ok (.aload_n 0, 1) := by decide +kernel
theorem dX7_copy_27 : decode cX7_copy 27 = .ok (.getfield 29, 3) := by decide +kernel
theorem dX7_copy_30 : decode cX7_copy 30 = .ok (.iload_n 1, 1) := by decide +kernel
theorem dX7_copy_31 : decode cX7_copy 31 = .ok (.iaload, 1) := by decide +kernel
theorem dX7_copy_32 : decode cX7_copy 32 = .ok (.ifCond .lt 12, 3) := by decide +kernel
theorem dX7_copy_35 : decode cX7_copy 35 = .ok (.aload_n 0, 1) := by decide +kernel
theorem dX7_copy_36 : decode cX7_copy 36 = .ok (.getfield 29, 3) := by decide +kernel
theorem dX7_copy_39 : decode cX7_copy 39 = .ok (.iload_n 3, 1) := by decide +kernel
theorem dX7_copy_40 : decode cX7_copy 40 = .ok (.iaload, 1) := by decide +kernel
theorem dX7_copy_41 : decode cX7_copy 41 = .ok (.ifCond .ge 6, 3) := by decide +kernel
theorem dX7_copy_44 : decode cX7_copy 44 = .ok (.bipush (-11), 2) := by decide +kernel
theorem dX7_copy_46 : decode cX7_copy 46 = .ok (.ireturn, 1) := by decide +kernel
theorem dX7_copy_47 : decode cX7_copy 47 = .ok (.aload_n 0, 1) := by decide +kernel
theorem dX7_copy_48 : decode cX7_copy 48 = .ok (.getfield 29, 3) := by decide +kernel
theorem dX7_copy_51 : decode cX7_copy 51 = .ok (.iload_n 1, 1) := by decide +kernel
theorem dX7_copy_52 : decode cX7_copy 52 = .ok (.iaload, 1) := by decide +kernel
theorem dX7_copy_53 : decode cX7_copy 53 = .ok (.aload_n 0, 1) := by decide +kernel
theorem dX7_copy_54 : decode cX7_copy 54 = .ok (.getfield 29, 3) := by decide +kernel
theorem dX7_copy_57 : decode cX7_copy 57 = .ok (.iload_n 3, 1) := by decide +kernel
theorem dX7_copy_58 : decode cX7_copy 58 = .ok (.iaload, 1) := by decide +kernel
theorem dX7_copy_59 : decode cX7_copy 59 = .ok (.if_icmp .eq 6, 3) := by decide +kernel
theorem dX7_copy_62 : decode cX7_copy 62 = .ok (.bipush (-12), 2) := by decide +kernel
theorem dX7_copy_64 : decode cX7_copy 64 = .ok (.ireturn, 1) := by decide +kernel
theorem dX7_copy_65 : decode cX7_copy 65 = .ok (.iload 5, 2) := by decide +kernel
theorem dX7_copy_67 : decode cX7_copy 67 = .ok (.ifCond .lt 46, 3) := by decide +kernel
theorem dX7_copy_70 : decode cX7_copy 70 = .ok (.iload 5, 2) := by decide +kernel
theorem dX7_copy_72 : decode cX7_copy 72 = .ok (.bipush 30, 2) := by decide +kernel
theorem dX7_copy_74 : decode cX7_copy 74 = .ok (.if_icmp .gt 39, 3) := by decide +kernel
theorem dX7_copy_77 : decode cX7_copy 77 = .ok (.iload_n 2, 1) := by decide +kernel
theorem dX7_copy_78 : decode cX7_copy 78 = .ok (.ifCond .lt 35, 3) := by decide +kernel
theorem dX7_copy_81 : decode cX7_copy 81 = .ok (.iload 4, 2) := by decide +kernel
theorem dX7_copy_83 : decode cX7_copy 83 = .ok (.ifCond .lt 30, 3) := by decide +kernel
theorem dX7_copy_86 : decode cX7_copy 86 = .ok (.iload_n 2, 1) := by decide +kernel
theorem dX7_copy_87 : decode cX7_copy 87 = .ok (.aload_n 0, 1) := by decide +kernel
theorem dX7_copy_88 : decode cX7_copy 88 = .ok (.getfield 32, 3) := by decide +kernel
theorem dX7_copy_91 : decode cX7_copy 91 = .ok (.iload_n 1, 1) := by decide +kernel
theorem dX7_copy_92 : decode cX7_copy 92 = .ok (.iaload, 1) := by decide +kernel
theorem dX7_copy_93 : decode cX7_copy 93 = .ok (.iload 5, 2) := by decide +kernel
theorem dX7_copy_95 : decode cX7_copy 95 = .ok (.isub, 1) := by decide +kernel
theorem dX7_copy_96 : decode cX7_copy 96 = .ok (.if_icmp .gt 17, 3) := by decide +kernel
theorem dX7_copy_99 : decode cX7_copy 99 = .ok (.iload 4, 2) := by decide +kernel
theorem dX7_copy_101 : decode cX7_copy 101 = .ok (.aload_n 0, 1) := by decide +kernel
theorem dX7_copy_102 : decode cX7_copy 102 = .ok (.getfield 32, 3) := by decide +kernel
theorem dX7_copy_105 : decode cX7_copy 105 = .ok (.iload_n 3, 1) := by decide +kernel
theorem dX7_copy_106 : decode cX7_copy 106 = .ok (.iaload, 1) := by decide +kernel
theorem dX7_copy_107 : decode cX7_copy 107 = .ok (.iload 5, 2) := by decide +kernel
theorem dX7_copy_109 : decode cX7_copy 109 = .ok (.isub, 1) := by decide +kernel
theorem dX7_copy_110 : decode cX7_copy 110 = .ok (.if_icmp .le 6, 3) := by decide +kernel
theorem dX7_copy_113 : decode cX7_copy 113 = .ok (.bipush (-13), 2) := by decide +kernel
theorem dX7_copy_115 : decode cX7_copy 115 = .ok (.ireturn, 1) := by decide +kernel
theorem dX7_copy_116 : decode cX7_copy 116 = .ok (.iload 4, 2) := by decide +kernel
theorem dX7_copy_118 : decode cX7_copy 118 = .ok (.iload_n 2, 1) := by decide +kernel
theorem dX7_copy_119 : decode cX7_copy 119 = .ok (.if_icmp .le 7, 3) := by decide +kernel
theorem dX7_copy_122 : decode cX7_copy 122 = .ok (.iconst 1, 1) := by decide +kernel
theorem dX7_copy_123 : decode cX7_copy 123 = .ok (.goto 4, 3) := by decide +kernel
theorem dX7_copy_126 : decode cX7_copy 126 = .ok (.iconst 0, 1) := by decide +kernel
theorem dX7_copy_127 : decode cX7_copy 127 = .ok (.istore 6, 2) := by decide +kernel
theorem dX7_copy_129 : decode cX7_copy 129 = .ok (.iconst 0, 1) := by decide +kernel
theorem dX7_copy_130 : decode cX7_copy 130 = .ok (.istore 7, 2) := by decide +kernel
theorem dX7_copy_132 : decode cX7_copy 132 = .ok (.iload 7, 2) := by decide +kernel
theorem dX7_copy_134 : decode cX7_copy 134 = .ok (.iload 5, 2) := by decide +kernel
theorem dX7_copy_136 : decode cX7_copy 136 = .ok (.if_icmp .ge 57, 3) := by decide +kernel
theorem dX7_copy_139 : decode cX7_copy 139 = .ok (.iload 6, 2) := by decide +kernel
theorem dX7_copy_141 : decode cX7_copy 141 = .ok (.ifCond .eq 13, 3) := by decide +kernel
theorem dX7_copy_144 : decode cX7_copy 144 = .ok (.iload 5, 2) := by decide +kernel
theorem dX7_copy_146 : decode cX7_copy 146 = .ok (.iconst 1, 1) := by decide +kernel
theorem dX7_copy_147 : decode cX7_copy 147 = .ok (.isub, 1) := by decide +kernel
theorem dX7_copy_148 : decode cX7_copy 148 = .ok (.iload 7, 2) := by decide +kernel
theorem dX7_copy_150 : decode cX7_copy 150 = .ok (.isub, 1) := by decide +kernel
theorem dX7_copy_151 : decode cX7_copy 151 = .ok (.goto 5, 3) := by decide +kernel
theorem dX7_copy_154 : decode cX7_copy 154 = .ok (.iload 7, 2) := by decide +kernel
theorem dX7_copy_156 : decode cX7_copy 156 = .ok (.istore 8, 2) := by decide +kernel
theorem dX7_copy_158 : decode cX7_copy 158 = .ok (.aload_n 0, 1) := by decide +kernel
theorem dX7_copy_159 : decode cX7_copy 159 = .ok (.getfield 35, 3) := by decide +kernel
theorem dX7_copy_162 : decode cX7_copy 162 = .ok (.bipush 30, 2) := by decide +kernel
theorem dX7_copy_164 : decode cX7_copy 164 = .ok (.iload_n 3, 1) := by decide +kernel
theorem dX7_copy_165 : decode cX7_copy 165 = .ok (.imul, 1) := by decide +kernel
theorem dX7_copy_166 : decode cX7_copy 166 = .ok (.iload 4, 2) := by decide +kernel
theorem dX7_copy_168 : decode cX7_copy 168 = .ok (.iadd, 1) := by decide +kernel
theorem dX7_copy_169 : decode cX7_copy 169 = .ok (.iload 8, 2) := by decide +kernel
theorem dX7_copy_171 : decode cX7_copy 171 = .ok (.iadd, 1) := by decide +kernel
theorem dX7_copy_172 : decode cX7_copy 172 = .ok (.aload_n 0, 1) := by decide +kernel
theorem dX7_copy_173 : decode cX7_copy 173 = .ok (.getfield 35, 3) := by decide +kernel
theorem dX7_copy_176 : decode cX7_copy 176 = .ok (.bipush 30, 2) := by decide +kernel
theorem dX7_copy_178 : decode cX7_copy 178 = .ok (.iload_n 1, 1) := by decide +kernel
theorem dX7_copy_179 : decode cX7_copy 179 = .ok (.imul, 1) := by decide +kernel
theorem dX7_copy_180 : decode cX7_copy 180 = .ok (.iload_n 2, 1) := by decide +kernel
theorem dX7_copy_181 : decode cX7_copy 181 = .ok (.iadd, 1) := by decide +kernel
theorem dX7_copy_182 : decode cX7_copy 182 = .ok (.iload 8, 2) := by decide +kernel
theorem dX7_copy_184 : decode cX7_copy 184 = .ok (.iadd, 1) := by decide +kernel
theorem dX7_copy_185 : decode cX7_copy 185 = .ok (.laload, 1) := by decide +kernel
theorem dX7_copy_186 : decode cX7_copy 186 = .ok (.lastore, 1) := by decide +kernel
theorem dX7_copy_187 : decode cX7_copy 187 = .ok (.iinc 7 1, 3) := by decide +kernel
theorem dX7_copy_190 : decode cX7_copy 190 = .ok (.goto (-58), 3) := by decide +kernel
theorem dX7_copy_193 : decode cX7_copy 193 = .ok (.iload 5, 2) := by decide +kernel
theorem dX7_copy_195 : decode cX7_copy 195 = .ok (.ireturn, 1) := by decide +kernel
theorem dJ6_numberOfLeadingZeros_0f7a4_0 : decode cJ6_numberOfLeadingZeros_0f7a4 0 = .ok (.iload_n 0, 1) := by decide +kernel
theorem dJ6_numberOfLeadingZeros_0f7a4_1 : decode cJ6_numberOfLeadingZeros_0f7a4 1 = .ok (.ifCond .gt 14, 3) := by decide +kernel
theorem dJ6_numberOfLeadingZeros_0f7a4_4 : decode cJ6_numberOfLeadingZeros_0f7a4 4 = .ok (.iload_n 0, 1) := by decide +kernel
theorem dJ6_numberOfLeadingZeros_0f7a4_5 : decode cJ6_numberOfLeadingZeros_0f7a4 5 = .ok (.ifCond .ne 8, 3) := by decide +kernel
theorem dJ6_numberOfLeadingZeros_0f7a4_8 : decode cJ6_numberOfLeadingZeros_0f7a4 8 = .ok (.bipush 32, 2) := by decide +kernel
theorem dJ6_numberOfLeadingZeros_0f7a4_10 : decode cJ6_numberOfLeadingZeros_0f7a4 10 = .ok (.goto 4, 3) := by decide +kernel
theorem dJ6_numberOfLeadingZeros_0f7a4_13 : decode cJ6_numberOfLeadingZeros_0f7a4 13 = .ok (.iconst 0, 1) := by decide +kernel
theorem dJ6_numberOfLeadingZeros_0f7a4_14 : decode cJ6_numberOfLeadingZeros_0f7a4 14 = .ok (.ireturn, 1) := by decide +kernel
theorem dJ6_numberOfLeadingZeros_0f7a4_15 : decode cJ6_numberOfLeadingZeros_0f7a4 15 = .ok (.bipush 31, 2) := by decide +kernel
theorem dJ6_numberOfLeadingZeros_0f7a4_17 : decode cJ6_numberOfLeadingZeros_0f7a4 17 = .ok (.istore_n 1, 1) := by decide +kernel
theorem dJ6_numberOfLeadingZeros_0f7a4_18 : decode cJ6_numberOfLeadingZeros_0f7a4 18 = .ok (.iload_n 0, 1) := by decide +kernel
theorem dJ6_numberOfLeadingZeros_0f7a4_19 : decode cJ6_numberOfLeadingZeros_0f7a4 19 = .ok (.ldc_w 264, 3) := by decide +kernel
theorem dJ6_numberOfLeadingZeros_0f7a4_22 : decode cJ6_numberOfLeadingZeros_0f7a4 22 = .ok (.if_icmp .lt 11, 3) := by decide +kernel
theorem dJ6_numberOfLeadingZeros_0f7a4_25 : decode cJ6_numberOfLeadingZeros_0f7a4 25 = .ok (.iinc 1 (-16), 3) := by decide +kernel
theorem dJ6_numberOfLeadingZeros_0f7a4_28 : decode cJ6_numberOfLeadingZeros_0f7a4 28 = .ok (.iload_n 0, 1) := by decide +kernel
theorem dJ6_numberOfLeadingZeros_0f7a4_29 : decode cJ6_numberOfLeadingZeros_0f7a4 29 = .ok (.bipush 16, 2) := by decide +kernel
theorem dJ6_numberOfLeadingZeros_0f7a4_31 : decode cJ6_numberOfLeadingZeros_0f7a4 31 = .ok (.iushr, 1) := by decide +kernel
theorem dJ6_numberOfLeadingZeros_0f7a4_32 : decode cJ6_numberOfLeadingZeros_0f7a4 32 = .ok (.istore_n 0, 1) := by decide +kernel
theorem dJ6_numberOfLeadingZeros_0f7a4_33 : decode cJ6_numberOfLeadingZeros_0f7a4 33 = .ok (.iload_n 0, 1) := by decide +kernel
theorem dJ6_numberOfLeadingZeros_0f7a4_34 : decode cJ6_numberOfLeadingZeros_0f7a4 34 = .ok (.sipush 256, 3) := by decide +kernel
theorem dJ6_numberOfLeadingZeros_0f7a4_37 : decode cJ6_numberOfLeadingZeros_0f7a4 37 = .ok (.if_icmp .lt 11, 3) := by decide +kernel
theorem dJ6_numberOfLeadingZeros_0f7a4_40 : decode cJ6_numberOfLeadingZeros_0f7a4 40 = .ok (.iinc 1 (-8), 3) := by decide +kernel
theorem dJ6_numberOfLeadingZeros_0f7a4_43 : decode cJ6_numberOfLeadingZeros_0f7a4 43 = .ok (.iload_n 0, 1) := by decide +kernel
theorem dJ6_numberOfLeadingZeros_0f7a4_44 : decode cJ6_numberOfLeadingZeros_0f7a4 44 = .ok (.bipush 8, 2) := by decide +kernel
theorem dJ6_numberOfLeadingZeros_0f7a4_46 : decode cJ6_numberOfLeadingZeros_0f7a4 46 = .ok (.iushr, 1) := by decide +kernel
theorem dJ6_numberOfLeadingZeros_0f7a4_47 : decode cJ6_numberOfLeadingZeros_0f7a4 47 = .ok (.istore_n 0, 1) := by decide +kernel
theorem dJ6_numberOfLeadingZeros_0f7a4_48 : decode cJ6_numberOfLeadingZeros_0f7a4 48 = .ok (.iload_n 0, 1) := by decide +kernel
theorem dJ6_numberOfLeadingZeros_0f7a4_49 : decode cJ6_numberOfLeadingZeros_0f7a4 49 = .ok (.bipush 16, 2) := by decide +kernel
theorem dJ6_numberOfLeadingZeros_0f7a4_51 : decode cJ6_numberOfLeadingZeros_0f7a4 51 = .ok (.if_icmp .lt 10, 3) := by decide +kernel
theorem dJ6_numberOfLeadingZeros_0f7a4_54 : decode cJ6_numberOfLeadingZeros_0f7a4 54 = .ok (.iinc 1 (-4), 3) := by decide +kernel
theorem dJ6_numberOfLeadingZeros_0f7a4_57 : decode cJ6_numberOfLeadingZeros_0f7a4 57 = .ok (.iload_n 0, 1) := by decide +kernel
theorem dJ6_numberOfLeadingZeros_0f7a4_58 : decode cJ6_numberOfLeadingZeros_0f7a4 58 = .ok (.iconst 4, 1) := by decide +kernel
theorem dJ6_numberOfLeadingZeros_0f7a4_59 : decode cJ6_numberOfLeadingZeros_0f7a4 59 = .ok (.iushr, 1) := by decide +kernel
theorem dJ6_numberOfLeadingZeros_0f7a4_60 : decode cJ6_numberOfLeadingZeros_0f7a4 60 = .ok (.istore_n 0, 1) := by decide +kernel
theorem dJ6_numberOfLeadingZeros_0f7a4_61 : decode cJ6_numberOfLeadingZeros_0f7a4 61 = .ok (.iload_n 0, 1) := by decide +kernel
theorem dJ6_numberOfLeadingZeros_0f7a4_62 : decode cJ6_numberOfLeadingZeros_0f7a4 62 = .ok (.iconst 4, 1) := by decide +kernel
theorem dJ6_numberOfLeadingZeros_0f7a4_63 : decode cJ6_numberOfLeadingZeros_0f7a4 63 = .ok (.if_icmp .lt 10, 3) := by decide +kernel
theorem dJ6_numberOfLeadingZeros_0f7a4_66 : decode cJ6_numberOfLeadingZeros_0f7a4 66 = .ok (.iinc 1 (-2), 3) := by decide +kernel
theorem dJ6_numberOfLeadingZeros_0f7a4_69 : decode cJ6_numberOfLeadingZeros_0f7a4 69 = .ok (.iload_n 0, 1) := by decide +kernel
theorem dJ6_numberOfLeadingZeros_0f7a4_70 : decode cJ6_numberOfLeadingZeros_0f7a4 70 = .ok (.iconst 2, 1) := by decide +kernel
theorem dJ6_numberOfLeadingZeros_0f7a4_71 : decode cJ6_numberOfLeadingZeros_0f7a4 71 = .ok (.iushr, 1) := by decide +kernel
theorem dJ6_numberOfLeadingZeros_0f7a4_72 : decode cJ6_numberOfLeadingZeros_0f7a4 72 = .ok (.istore_n 0, 1) := by decide +kernel
theorem dJ6_numberOfLeadingZeros_0f7a4_73 : decode cJ6_numberOfLeadingZeros_0f7a4 73 = .ok (.iload_n 1, 1) := by decide +kernel
theorem dJ6_numberOfLeadingZeros_0f7a4_74 : decode cJ6_numberOfLeadingZeros_0f7a4 74 = .ok (.iload_n 0, 1) := by decide +kernel
theorem dJ6_numberOfLeadingZeros_0f7a4_75 : decode cJ6_numberOfLeadingZeros_0f7a4 75 = .ok (.iconst 1, 1) := by decide +kernel
theorem dJ6_numberOfLeadingZeros_0f7a4_76 : decode cJ6_numberOfLeadingZeros_0f7a4 76 = .ok (.iushr, 1) := by decide +kernel
theorem dJ6_numberOfLeadingZeros_0f7a4_77 : decode cJ6_numberOfLeadingZeros_0f7a4 77 = .ok (.isub, 1) := by decide +kernel
theorem dJ6_numberOfLeadingZeros_0f7a4_78 : decode cJ6_numberOfLeadingZeros_0f7a4 78 = .ok (.ireturn, 1) := by decide +kernel
theorem dJ6_numberOfTrailingZeros_0f7a4_0 : decode cJ6_numberOfTrailingZeros_0f7a4 0 = .ok (.iload_n 0, 1) := by decide +kernel
theorem dJ6_numberOfTrailingZeros_0f7a4_1 : decode cJ6_numberOfTrailingZeros_0f7a4 1 = .ok (.iconst (-1), 1) := by decide +kernel
theorem dJ6_numberOfTrailingZeros_0f7a4_2 : decode cJ6_numberOfTrailingZeros_0f7a4 2 = .ok (.ixor, 1) := by decide +kernel
theorem dJ6_numberOfTrailingZeros_0f7a4_3 : decode cJ6_numberOfTrailingZeros_0f7a4 3 = .ok (.iload_n 0, 1) := by decide +kernel
theorem dJ6_numberOfTrailingZeros_0f7a4_4 : decode cJ6_numberOfTrailingZeros_0f7a4 4 = .ok (.iconst 1, 1) := by decide +kernel
theorem dJ6_numberOfTrailingZeros_0f7a4_5 : decode cJ6_numberOfTrailingZeros_0f7a4 5 = .ok (.isub, 1) := by decide +kernel
theorem dJ6_numberOfTrailingZeros_0f7a4_6 : decode cJ6_numberOfTrailingZeros_0f7a4 6 = .ok (.iand, 1) := by decide +kernel
theorem dJ6_numberOfTrailingZeros_0f7a4_7 : decode cJ6_numberOfTrailingZeros_0f7a4 7 = .ok (.istore_n 0, 1) := by decide +kernel
theorem dJ6_numberOfTrailingZeros_0f7a4_8 : decode cJ6_numberOfTrailingZeros_0f7a4 8 = .ok (.iload_n 0, 1) := by decide +kernel
theorem dJ6_numberOfTrailingZeros_0f7a4_9 : decode cJ6_numberOfTrailingZeros_0f7a4 9 = .ok (.ifCond .gt 8, 3) := by decide +kernel
theorem dJ6_numberOfTrailingZeros_0f7a4_12 : decode cJ6_numberOfTrailingZeros_0f7a4 12 = .ok (.iload_n 0, 1) := by decide +kernel
theorem dJ6_numberOfTrailingZeros_0f7a4_13 : decode cJ6_numberOfTrailingZeros_0f7a4 13 = .ok (.bipush 32, 2) := by decide +kernel
theorem dJ6_numberOfTrailingZeros_0f7a4_15 : decode cJ6_numberOfTrailingZeros_0f7a4 15 = .ok (.iand, 1) := by decide +kernel
theorem dJ6_numberOfTrailingZeros_0f7a4_16 : decode cJ6_numberOfTrailingZeros_0f7a4 16 = .ok (.ireturn, 1) := by decide +kernel
theorem dJ6_numberOfTrailingZeros_0f7a4_17 : decode cJ6_numberOfTrailingZeros_0f7a4 17 = .ok (.iconst 1, 1) := by decide +kernel
theorem dJ6_numberOfTrailingZeros_0f7a4_18 : decode cJ6_numberOfTrailingZeros_0f7a4 18 = .ok (.istore_n 1, 1) := by decide +kernel
theorem dJ6_numberOfTrailingZeros_0f7a4_19 : decode cJ6_numberOfTrailingZeros_0f7a4 19 = .ok (.iload_n 0, 1) := by decide +kernel
theorem dJ6_numberOfTrailingZeros_0f7a4_20 : decode cJ6_numberOfTrailingZeros_0f7a4 20 = .ok (.ldc_w 264, 3) := by decide +kernel
theorem dJ6_numberOfTrailingZeros_0f7a4_23 : decode cJ6_numberOfTrailingZeros_0f7a4 23 = .ok (.if_icmp .le 11, 3) := by decide +kernel
theorem dJ6_numberOfTrailingZeros_0f7a4_26 : decode cJ6_numberOfTrailingZeros_0f7a4 26 = .ok (.iinc 1 16, 3) := by decide +kernel
theorem dJ6_numberOfTrailingZeros_0f7a4_29 : decode cJ6_numberOfTrailingZeros_0f7a4 29 = .ok (.iload_n 0, 1) := by decide +kernel
theorem dJ6_numberOfTrailingZeros_0f7a4_30 : decode cJ6_numberOfTrailingZeros_0f7a4 30 = .ok (.bipush 16, 2) := by decide +kernel
theorem dJ6_numberOfTrailingZeros_0f7a4_32 : decode cJ6_numberOfTrailingZeros_0f7a4 32 = .ok (.iushr, 1) := by decide +kernel
theorem dJ6_numberOfTrailingZeros_0f7a4_33 : decode cJ6_numberOfTrailingZeros_0f7a4 33 = .ok (.istore_n 0, 1) := by decide +kernel
theorem dJ6_numberOfTrailingZeros_0f7a4_34 : decode cJ6_numberOfTrailingZeros_0f7a4 34 = .ok (.iload_n 0, 1) := by decide +kernel
theorem dJ6_numberOfTrailingZeros_0f7a4_35 : decode cJ6_numberOfTrailingZeros_0f7a4 35 = .ok (.sipush 256, 3) := by decide +kernel
theorem dJ6_numberOfTrailingZeros_0f7a4_38 : decode cJ6_numberOfTrailingZeros_0f7a4 38 = .ok (.if_icmp .le 11, 3) := by decide +kernel
theorem dJ6_numberOfTrailingZeros_0f7a4_41 : decode cJ6_numberOfTrailingZeros_0f7a4 41 = .ok (.iinc 1 8, 3) := by decide +kernel
theorem dJ6_numberOfTrailingZeros_0f7a4_44 : decode cJ6_numberOfTrailingZeros_0f7a4 44 = .ok (.iload_n 0, 1) := by decide +kernel
theorem dJ6_numberOfTrailingZeros_0f7a4_45 : decode cJ6_numberOfTrailingZeros_0f7a4 45 = .ok (.bipush 8, 2) := by decide +kernel
theorem dJ6_numberOfTrailingZeros_0f7a4_47 : decode cJ6_numberOfTrailingZeros_0f7a4 47 = .ok (.iushr, 1) := by decide +kernel
theorem dJ6_numberOfTrailingZeros_0f7a4_48 : decode cJ6_numberOfTrailingZeros_0f7a4 48 = .ok (.istore_n 0, 1) := by decide +kernel
theorem dJ6_numberOfTrailingZeros_0f7a4_49 : decode cJ6_numberOfTrailingZeros_0f7a4 49 = .ok (.iload_n 0, 1) := by decide +kernel
theorem dJ6_numberOfTrailingZeros_0f7a4_50 : decode cJ6_numberOfTrailingZeros_0f7a4 50 = .ok (.bipush 16, 2) := by decide +kernel
theorem dJ6_numberOfTrailingZeros_0f7a4_52 : decode cJ6_numberOfTrailingZeros_0f7a4 52 = .ok (.if_icmp .le 10, 3) := by decide +kernel
theorem dJ6_numberOfTrailingZeros_0f7a4_55 : decode cJ6_numberOfTrailingZeros_0f7a4 55 = .ok (.iinc 1 4, 3) := by decide +kernel
theorem dJ6_numberOfTrailingZeros_0f7a4_58 : decode cJ6_numberOfTrailingZeros_0f7a4 58 = .ok (.iload_n 0, 1) := by decide +kernel
theorem dJ6_numberOfTrailingZeros_0f7a4_59 : decode cJ6_numberOfTrailingZeros_0f7a4 59 = .ok (.iconst 4, 1) := by decide +kernel
theorem dJ6_numberOfTrailingZeros_0f7a4_60 : decode cJ6_numberOfTrailingZeros_0f7a4 60 = .ok (.iushr, 1) := by decide +kernel
theorem dJ6_numberOfTrailingZeros_0f7a4_61 : decode cJ6_numberOfTrailingZeros_0f7a4 61 = .ok (.istore_n 0, 1) := by decide +kernel
theorem dJ6_numberOfTrailingZeros_0f7a4_62 : decode cJ6_numberOfTrailingZeros_0f7a4 62 = .ok (.iload_n 0, 1) := by decide +kernel
theorem dJ6_numberOfTrailingZeros_0f7a4_63 : decode cJ6_numberOfTrailingZeros_0f7a4 63 = .ok (.iconst 4, 1) := by decide +kernel
theorem dJ6_numberOfTrailingZeros_0f7a4_64 : decode cJ6_numberOfTrailingZeros_0f7a4 64 = .ok (.if_icmp .le 10, 3) := by decide +kernel
theorem dJ6_numberOfTrailingZeros_0f7a4_67 : decode cJ6_numberOfTrailingZeros_0f7a4 67 = .ok (.iinc 1 2, 3) := by decide +kernel
theorem dJ6_numberOfTrailingZeros_0f7a4_70 : decode cJ6_numberOfTrailingZeros_0f7a4 70 = .ok (.iload_n 0, 1) := by decide +kernel
theorem dJ6_numberOfTrailingZeros_0f7a4_71 : decode cJ6_numberOfTrailingZeros_0f7a4 71 = .ok (.iconst 2, 1) := by decide +kernel
theorem dJ6_numberOfTrailingZeros_0f7a4_72 : decode cJ6_numberOfTrailingZeros_0f7a4 72 = .ok (.iushr, 1) := by decide +kernel
theorem dJ6_numberOfTrailingZeros_0f7a4_73 : decode cJ6_numberOfTrailingZeros_0f7a4 73 = .ok (.istore_n 0, 1) := by decide +kernel
theorem dJ6_numberOfTrailingZeros_0f7a4_74 : decode cJ6_numberOfTrailingZeros_0f7a4 74 = .ok (.iload_n 1, 1) := by decide +kernel
theorem dJ6_numberOfTrailingZeros_0f7a4_75 : decode cJ6_numberOfTrailingZeros_0f7a4 75 = .ok (.iload_n 0, 1) := by decide +kernel
theorem dJ6_numberOfTrailingZeros_0f7a4_76 : decode cJ6_numberOfTrailingZeros_0f7a4 76 = .ok (.iconst 1, 1) := by decide +kernel
theorem dJ6_numberOfTrailingZeros_0f7a4_77 : decode cJ6_numberOfTrailingZeros_0f7a4 77 = .ok (.iushr, 1) := by decide +kernel
theorem dJ6_numberOfTrailingZeros_0f7a4_78 : decode cJ6_numberOfTrailingZeros_0f7a4 78 = .ok (.iadd, 1) := by decide +kernel
theorem dJ6_numberOfTrailingZeros_0f7a4_79 : decode cJ6_numberOfTrailingZeros_0f7a4 79 = .ok (.ireturn, 1) := by decide +kernel
theorem dJ6_bitCount_0f7a4_0 : decode cJ6_bitCount_0f7a4 0 = .ok (.iload_n 0, 1) := by decide +kernel
theorem dJ6_bitCount_0f7a4_1 : decode cJ6_bitCount_0f7a4 1 = .ok (.iload_n 0, 1) := by decide +kernel
theorem dJ6_bitCount_0f7a4_2 : decode cJ6_bitCount_0f7a4 2 = .ok (.iconst 1, 1) := by decide +kernel
theorem dJ6_bitCount_0f7a4_3 : decode cJ6_bitCount_0f7a4 3 = .ok (.iushr, 1) := by decide +kernel
theorem dJ6_bitCount_0f7a4_4 : decode cJ6_bitCount_0f7a4 4 = .ok (.ldc_w 265, 3) := by decide +kernel
theorem dJ6_bitCount_0f7a4_7 : decode cJ6_bitCount_0f7a4 7 = .ok (.iand, 1) := by decide +kernel
theorem dJ6_bitCount_0f7a4_8 : decode cJ6_bitCount_0f7a4 8 = .ok (.isub, 1) := by decide +kernel
theorem dJ6_bitCount_0f7a4_9 : decode cJ6_bitCount_0f7a4 9 = .ok (.istore_n 0, 1) := by decide +kernel
theorem dJ6_bitCount_0f7a4_10 : decode cJ6_bitCount_0f7a4 10 = .ok (.iload_n 0, 1) := by decide +kernel
theorem dJ6_bitCount_0f7a4_11 : decode cJ6_bitCount_0f7a4 11 = .ok (.ldc_w 266, 3) := by decide +kernel
theorem dJ6_bitCount_0f7a4_14 : decode cJ6_bitCount_0f7a4 14 = .ok (.iand, 1) := by decide +kernel
theorem dJ6_bitCount_0f7a4_15 : decode cJ6_bitCount_0f7a4 15 = .ok (.iload_n 0, 1) := by decide +kernel
theorem dJ6_bitCount_0f7a4_16 : decode cJ6_bitCount_0f7a4 16 = .ok (.iconst 2, 1) := by decide +kernel
theorem dJ6_bitCount_0f7a4_17 : decode cJ6_bitCount_0f7a4 17 = .ok (.iushr, 1) := by decide +kernel
theorem dJ6_bitCount_0f7a4_18 : decode cJ6_bitCount_0f7a4 18 = .ok (.ldc_w 266, 3) := by decide +kernel
theorem dJ6_bitCount_0f7a4_21 : decode cJ6_bitCount_0f7a4 21 = .ok (.iand, 1) := by decide +kernel
theorem dJ6_bitCount_0f7a4_22 : decode cJ6_bitCount_0f7a4 22 = .ok (.iadd, 1) := by decide +kernel
theorem dJ6_bitCount_0f7a4_23 : decode cJ6_bitCount_0f7a4 23 = .ok (.istore_n 0, 1) := by decide +kernel
theorem dJ6_bitCount_0f7a4_24 : decode cJ6_bitCount_0f7a4 24 = .ok (.iload_n 0, 1) := by decide +kernel
theorem dJ6_bitCount_0f7a4_25 : decode cJ6_bitCount_0f7a4 25 = .ok (.iload_n 0, 1) := by decide +kernel
theorem dJ6_bitCount_0f7a4_26 : decode cJ6_bitCount_0f7a4 26 = .ok (.iconst 4, 1) := by decide +kernel
theorem dJ6_bitCount_0f7a4_27 : decode cJ6_bitCount_0f7a4 27 = .ok (.iushr, 1) := by decide +kernel
theorem dJ6_bitCount_0f7a4_28 : decode cJ6_bitCount_0f7a4 28 = .ok (.iadd, 1) := by decide +kernel
theorem dJ6_bitCount_0f7a4_29 : decode cJ6_bitCount_0f7a4 29 = .ok (.ldc_w 267, 3) := by decide +kernel
theorem dJ6_bitCount_0f7a4_32 : decode cJ6_bitCount_0f7a4 32 = .ok (.iand, 1) := by decide +kernel
theorem dJ6_bitCount_0f7a4_33 : decode cJ6_bitCount_0f7a4 33 = .ok (.istore_n 0, 1) := by decide +kernel
theorem dJ6_bitCount_0f7a4_34 : decode cJ6_bitCount_0f7a4 34 = .ok (.iload_n 0, 1) := by decide +kernel
theorem dJ6_bitCount_0f7a4_35 : decode cJ6_bitCount_0f7a4 35 = .ok (.iload_n 0, 1) := by decide +kernel
theorem dJ6_bitCount_0f7a4_36 : decode cJ6_bitCount_0f7a4 36 = .ok (.bipush 8, 2) := by decide +kernel
theorem dJ6_bitCount_0f7a4_38 : decode cJ6_bitCount_0f7a4 38 = .ok (.iushr, 1) := by decide +kernel
theorem dJ6_bitCount_0f7a4_39 : decode cJ6_bitCount_0f7a4 39 = .ok (.iadd, 1) := by decide +kernel
theorem dJ6_bitCount_0f7a4_40 : decode cJ6_bitCount_0f7a4 40 = .ok (.istore_n 0, 1) := by decide +kernel
theorem dJ6_bitCount_0f7a4_41 : decode cJ6_bitCount_0f7a4 41 = .ok (.iload_n 0, 1) := by decide +kernel
theorem dJ6_bitCount_0f7a4_42 : decode cJ6_bitCount_0f7a4 42 = .ok (.iload_n 0, 1) := by decide +kernel
theorem dJ6_bitCount_0f7a4_43 : decode cJ6_bitCount_0f7a4 43 = .ok (.bipush 16, 2) := by decide +kernel
theorem dJ6_bitCount_0f7a4_45 : decode cJ6_bitCount_0f7a4 45 = .ok (.iushr, 1) := by decide +kernel
theorem dJ6_bitCount_0f7a4_46 : decode cJ6_bitCount_0f7a4 46 = .ok (.iadd, 1) := by decide +kernel
theorem dJ6_bitCount_0f7a4_47 : decode cJ6_bitCount_0f7a4 47 = .ok (.istore_n 0, 1) := by decide +kernel
theorem dJ6_bitCount_0f7a4_48 : decode cJ6_bitCount_0f7a4 48 = .ok (.iload_n 0, 1) := by decide +kernel
theorem dJ6_bitCount_0f7a4_49 : decode cJ6_bitCount_0f7a4 49 = .ok (.bipush 63, 2) := by decide +kernel
theorem dJ6_bitCount_0f7a4_51 : decode cJ6_bitCount_0f7a4 51 = .ok (.iand, 1) := by decide +kernel
theorem dJ6_bitCount_0f7a4_52 : decode cJ6_bitCount_0f7a4 52 = .ok (.ireturn, 1) := by decide +kernel
theorem dJ9_max_7cf53_0 : decode cJ9_max_7cf53 0 = .ok (.iload_n 0, 1) := by decide +kernel
theorem dJ9_max_7cf53_1 : decode cJ9_max_7cf53 1 = .ok (.iload_n 1, 1) := by decide +kernel
theorem dJ9_max_7cf53_2 : decode cJ9_max_7cf53 2 = .ok (.if_icmp .lt 7, 3) := by decide +kernel
theorem dJ9_max_7cf53_5 : decode cJ9_max_7cf53 5 = .ok (.iload_n 0, 1) := by decide +kernel
theorem dJ9_max_7cf53_6 : decode cJ9_max_7cf53 6 = .ok (.goto 4, 3) := by decide +kernel
theorem dJ9_max_7cf53_9 : decode cJ9_max_7cf53 9 = .ok (.iload_n 1, 1) := by decide +kernel
theorem dJ9_max_7cf53_10 : decode cJ9_max_7cf53 10 = .ok (.ireturn, 1) := by decide +kernel
theorem dJ7_fill_d0a16_0 : decode cJ7_fill_d0a16 0 = .ok (.iconst 0, 1) := by decide +kernel
theorem dJ7_fill_d0a16_1 : decode cJ7_fill_d0a16 1 = .ok (.istore_n 3, 1) := by decide +kernel
theorem dJ7_fill_d0a16_2 : decode cJ7_fill_d0a16 2 = .ok (.aload_n 0, 1) := by decide +kernel
theorem dJ7_fill_d0a16_3 : decode cJ7_fill_d0a16 3 = .ok (.arraylength, 1) := by decide +kernel
theorem dJ7_fill_d0a16_4 : decode cJ7_fill_d0a16 4 = .ok (.istore 4, 2) := by decide +kernel
theorem dJ7_fill_d0a16_6 : decode cJ7_fill_d0a16 6 = .ok (.iload_n 3, 1) := by decide +kernel
theorem dJ7_fill_d0a16_7 : decode cJ7_fill_d0a16 7 = .ok (.iload 4, 2) := by decide +kernel
theorem dJ7_fill_d0a16_9 : decode cJ7_fill_d0a16 9 = .ok (.if_icmp .ge 13, 3) := by decide +kernel
theorem dJ7_fill_d0a16_12 : decode cJ7_fill_d0a16 12 = .ok (.aload_n 0, 1) := by decide +kernel
theorem dJ7_fill_d0a16_13 : decode cJ7_fill_d0a16 13 = .ok (.iload_n 3, 1) := by decide +kernel
theorem dJ7_fill_d0a16_14 : decode cJ7_fill_d0a16 14 = .ok (.lload_n 1, 1) := by decide +kernel
theorem dJ7_fill_d0a16_15 : decode cJ7_fill_d0a16 15 = .ok (.lastore, 1) := by decide +kernel
theorem dJ7_fill_d0a16_16 : decode cJ7_fill_d0a16 16 = .ok (.iinc 3 1, 3) := by decide +kernel
theorem dJ7_fill_d0a16_19 : decode cJ7_fill_d0a16 19 = .ok (.goto (-13), 3) := by decide +kernel
theorem dJ7_fill_d0a16_22 : decode cJ7_fill_d0a16 22 = .ok (.return_, 1) := by decide +kernel
