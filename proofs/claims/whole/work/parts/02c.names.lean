theorem dX6_least_1 : decode cX6_least 1 = .ok (.ifCond .lt 12, 3) := by decide +kernel
theorem dX6_least_4 : decode cX6_least 4 = .ok (.iload_n 2, 1) := by decide +kernel
theorem dX6_least_5 : decode cX6_least 5 = .ok (.ifCond .lt 8, 3) := by decide +kernel
theorem dX6_least_8 : decode cX6_least 8 = .ok (.iload_n 2, 1) := by decide +kernel
theorem dX6_least_9 : decode cX6_least 9 = .ok (.iconst 1, 1) := by decide +kernel
theorem dX6_least_10 : decode cX6_least 10 = .ok (.if_icmp .le 5, 3) := by decide +kernel
theorem dX6_least_13 : decode cX6_least 13 = .ok (.iconst (-1), 1) := by decide +kernel
theorem dX6_least_14 : decode cX6_least 14 = .ok (.ireturn, 1) := by decide +kernel
theorem dX6_least_15 : decode cX6_least 15 = .ok (.aload_n 0, 1) := by decide +kernel
theorem dX6_least_16 : decode cX6_least 16 = .ok (.invokevirtual 67, 3) := by decide +kernel
theorem dX6_least_19 : decode cX6_least 19 = .ok (.invokevirtual 71, 3) := by decide +kernel
theorem dX6_least_22 : decode cX6_least 22 = .ok (.astore_n 3, 1) := by decide +kernel
theorem dX6_least_23 : decode cX6_least 23 = .ok (.aload_n 3, 1) := by decide +kernel
theorem dX6_least_24 : decode cX6_least 24 = .ok (.iload_n 1, 1) := by decide +kernel
theorem dX6_least_25 : decode cX6_least 25 = .ok (.invokevirtual 99, 3) := by decide +kernel
theorem dX6_least_28 : decode cX6_least 28 = .ok (.istore 4, 2) := by decide +kernel
theorem dX6_least_30 : decode cX6_least 30 = .ok (.iload 4, 2) := by decide +kernel
theorem dX6_least_32 : decode cX6_least 32 = .ok (.bipush (-4), 2) := by decide +kernel
theorem dX6_least_34 : decode cX6_least 34 = .ok (.if_icmp .ne 6, 3) := by decide +kernel
theorem dX6_least_37 : decode cX6_least 37 = .ok (.bipush (-4), 2) := by decide +kernel
theorem dX6_least_39 : decode cX6_least 39 = .ok (.ireturn, 1) := by decide +kernel
theorem dX6_least_40 : decode cX6_least 40 = .ok (.iload_n 2, 1) := by decide +kernel
theorem dX6_least_41 : decode cX6_least 41 = .ok (.ifCond .ne 8, 3) := by decide +kernel
theorem dX6_least_44 : decode cX6_least 44 = .ok (.iload 4, 2) := by decide +kernel
theorem dX6_least_46 : decode cX6_least 46 = .ok (.goto 9, 3) := by decide +kernel
theorem dX6_least_49 : decode cX6_least 49 = .ok (.aload_n 3, 1) := by decide +kernel
theorem dX6_least_50 : decode cX6_least 50 = .ok (.iload 4, 2) := by decide +kernel
theorem dX6_least_52 : decode cX6_least 52 = .ok (.invokevirtual 77, 3) := by decide +kernel
theorem dX6_least_55 : decode cX6_least 55 = .ok (.ireturn, 1) := by decide +kernel
set_option maxRecDepth 20000 in
theorem ggX6_count_X6_table : GoodIn wsX6_count wsX6_table := goodIn_r _ [6, 1, 7, 8, 9, 10, 11, 12, 13, 14, 15, 16, 17, 18, 188, 189, 190, 191, 192, 193, 194, 195, 196, 197, 198, 199, 200] (by decide +kernel) (by decide +kernel)
set_option maxRecDepth 20000 in
theorem gX6_count_X6_table : GoodIn wsX6_count (wsV RX6 51 RX6 yX6_table wsX6_table) := goodIn_app (goodIn_of _ (by decide +kernel)) ggX6_count_X6_table
set_option maxRecDepth 20000 in
theorem ggX6_count_X3_howMany : GoodIn wsX6_count wsX3_howMany := goodIn_r _ [23, 24, 201, 202] (by decide +kernel) (by decide +kernel)
set_option maxRecDepth 20000 in
theorem gX6_count_X3_howMany : GoodIn wsX6_count (wsV RX6 102 RX3 yX3_howMany wsX3_howMany) := goodIn_app (goodIn_of _ (by decide +kernel)) ggX6_count_X3_howMany
set_option maxRecDepth 20000 in
theorem ggX6_count_X6_freshView : GoodIn wsX6_count wsX6_freshView := goodIn_r _ [28, 29, 30, 2, 3, 4, 5, 6, 1, 7, 8, 9, 10, 11, 12, 13, 14, 15, 16, 17, 18, 31, 32, 33, 34, 35, 36, 37, 38, 39, 40, 41, 42, 43, 44, 45, 46, 47, 48, 49, 50, 22, 51, 52, 53, 54, 55, 56, 24, 57, 58, 59, 60, 61, 62, 63, 64, 65, 66, 67, 68, 69, 70, 71, 72, 73, 74, 75, 76, 77, 78, 79, 80, 81, 82, 83, 84, 85, 86, 87, 88, 89, 90, 91, 92, 93, 94, 95, 96, 97, 98, 99, 100, 101, 102, 103, 104, 105, 106, 107, 108, 109, 110, 111, 112, 188, 189, 190, 191, 192, 193, 194, 195, 196, 197, 198, 199, 200, 203, 204, 205, 206, 207, 208, 209, 201, 202] (by decide +kernel) (by decide +kernel)
set_option maxRecDepth 20000 in
theorem gX6_count_X6_freshView : GoodIn wsX6_count (wsV RX6 67 RX6 yX6_freshView wsX6_freshView) := goodIn_app (goodIn_of _ (by decide +kernel)) ggX6_count_X6_freshView
set_option maxRecDepth 20000 in
theorem ggX6_count_X5_leastTable : GoodIn wsX6_count wsX5_leastTable := goodIn_r _ [116, 78, 203, 204, 205, 206, 207, 208, 209] (by decide +kernel) (by decide +kernel)
set_option maxRecDepth 20000 in
theorem gX6_count_X5_leastTable : GoodIn wsX6_count (wsV RX6 71 RX5 yX5_leastTable wsX5_leastTable) := goodIn_app (goodIn_of _ (by decide +kernel)) ggX6_count_X5_leastTable
set_option maxRecDepth 20000 in
theorem ggX6_count_X6_installed : GoodIn wsX6_count wsX6_installed := goodIn_r _ [34, 1, 7, 8, 9, 10, 11, 12, 35, 36, 37, 16, 38, 39, 188, 189, 190, 191, 192, 193, 194, 195, 196, 197, 198, 199, 200] (by decide +kernel) (by decide +kernel)
set_option maxRecDepth 20000 in
theorem gX6_count_X6_installed : GoodIn wsX6_count (wsV RX6 64 RX6 yX6_installed wsX6_installed) := goodIn_app (goodIn_of _ (by decide +kernel)) ggX6_count_X6_installed
set_option maxRecDepth 20000 in
theorem ggX6_count_X5_countChanges : GoodIn wsX6_count wsX5_countChanges := goodIn_r _ [120, 121, 122, 123, 43, 124, 45, 78, 64, 65, 66, 22, 67, 52, 203, 204, 205, 206, 207, 208, 209, 201, 202] (by decide +kernel) (by decide +kernel)
set_option maxRecDepth 20000 in
theorem gX6_count_X5_countChanges : GoodIn wsX6_count (wsV RX6 106 RX5 yX5_countChanges wsX5_countChanges) := goodIn_app (goodIn_of _ (by decide +kernel)) ggX6_count_X5_countChanges
set_option maxRecDepth 20000 in
theorem ggX6_count_X5_countProof : GoodIn wsX6_count wsX5_countProof := goodIn_r _ [128, 129, 130, 131, 43, 132, 133, 134, 135, 136, 46, 102, 5, 103, 137, 138, 139, 140, 95, 141, 142, 143, 144, 145, 146, 147, 148, 47, 149, 150, 151, 152, 153, 154, 155, 156, 97, 203, 204, 205, 206, 207, 208, 209] (by decide +kernel) (by decide +kernel)
set_option maxRecDepth 20000 in
theorem gX6_count_X5_countProof : GoodIn wsX6_count (wsV RX6 109 RX5 yX5_countProof wsX5_countProof) := goodIn_app (goodIn_of _ (by decide +kernel)) ggX6_count_X5_countProof
set_option maxRecDepth 20000 in
theorem ggX6_count_X3_countRedundant : GoodIn wsX6_count wsX3_countRedundant := goodIn_r _ [160, 161, 162, 163, 22, 164, 106, 65, 66, 67, 52, 165, 166, 167, 168, 169, 170, 171, 172, 149, 5, 150, 151, 152, 153, 154, 155, 95, 156, 97, 173, 174, 175, 176, 177, 178, 201, 202] (by decide +kernel) (by decide +kernel)
set_option maxRecDepth 20000 in
theorem gX6_count_X3_countRedundant : GoodIn wsX6_count (wsV RX6 112 RX3 yX3_countRedundant wsX3_countRedundant) := goodIn_app (goodIn_of _ (by decide +kernel)) ggX6_count_X3_countRedundant
set_option maxRecDepth 20000 in
theorem ggX6_count_X5_firstSentElsewhere : GoodIn wsX6_count wsX5_firstSentElsewhere := goodIn_r _ [182, 46, 47, 203, 204, 205, 206, 207, 208, 209] (by decide +kernel) (by decide +kernel)
set_option maxRecDepth 20000 in
theorem gX6_count_X5_firstSentElsewhere : GoodIn wsX6_count (wsV RX6 115 RX5 yX5_firstSentElsewhere wsX5_firstSentElsewhere) := goodIn_app (goodIn_of _ (by decide +kernel)) ggX6_count_X5_firstSentElsewhere
set_option maxRecDepth 20000 in
theorem ggX6_count_X0_howManyKnown : GoodIn wsX6_count wsX0_howManyKnown := goodIn_r _ [186, 187, 195, 196, 197] (by decide +kernel) (by decide +kernel)
set_option maxRecDepth 20000 in
theorem gX6_count_X0_howManyKnown : GoodIn wsX6_count (wsV RX6 118 RX0 yX0_howManyKnown wsX0_howManyKnown) := goodIn_app (goodIn_of _ (by decide +kernel)) ggX6_count_X0_howManyKnown
theorem dX6_count_0 : decode cX6_count 0 = .ok (.iload_n 1, 1) := by decide +kernel
theorem dX6_count_1 : decode cX6_count 1 = .ok (.tableswitch 114 0 7 #[47, 55, 66, 74, 82, 90, 98, 106], 47) := by decide +kernel
theorem dX6_count_48 : decode cX6_count 48 = .ok (.aload_n 0, 1) := by decide +kernel
theorem dX6_count_49 : decode cX6_count 49 = .ok (.invokevirtual 51, 3) := by decide +kernel
theorem dX6_count_52 : decode cX6_count 52 = .ok (.invokevirtual 102, 3) := by decide +kernel
theorem dX6_count_55 : decode cX6_count 55 = .ok (.ireturn, 1) := by decide +kernel
theorem dX6_count_56 : decode cX6_count 56 = .ok (.aload_n 0, 1) := by decide +kernel
theorem dX6_count_57 : decode cX6_count 57 = .ok (.invokevirtual 67, 3) := by decide +kernel
theorem dX6_count_60 : decode cX6_count 60 = .ok (.invokevirtual 71, 3) := by decide +kernel
theorem dX6_count_63 : decode cX6_count 63 = .ok (.invokevirtual 102, 3) := by decide +kernel
theorem dX6_count_66 : decode cX6_count 66 = .ok (.ireturn, 1) := by decide +kernel
theorem dX6_count_67 : decode cX6_count 67 = .ok (.aload_n 0, 1) := by decide +kernel
theorem dX6_count_68 : decode cX6_count 68 = .ok (.invokevirtual 64, 3) := by decide +kernel
theorem dX6_count_71 : decode cX6_count 71 = .ok (.invokevirtual 102, 3) := by decide +kernel
theorem dX6_count_74 : decode cX6_count 74 = .ok (.ireturn, 1) := by decide +kernel
theorem dX6_count_75 : decode cX6_count 75 = .ok (.aload_n 0, 1) := by decide +kernel
theorem dX6_count_76 : decode cX6_count 76 = .ok (.invokevirtual 67, 3) := by decide +kernel
theorem dX6_count_79 : decode cX6_count 79 = .ok (.invokevirtual 106, 3) := by decide +kernel
theorem dX6_count_82 : decode cX6_count 82 = .ok (.ireturn, 1) := by decide +kernel
theorem dX6_count_83 : decode cX6_count 83 = .ok (.aload_n 0, 1) := by decide +kernel
theorem dX6_count_84 : decode cX6_count 84 = .ok (.invokevirtual 67, 3) := by decide +kernel
theorem dX6_count_87 : decode cX6_count 87 = .ok (.invokevirtual 109, 3) := by decide +kernel
theorem dX6_count_90 : decode cX6_count 90 = .ok (.ireturn, 1) := by decide +kernel
theorem dX6_count_91 : decode cX6_count 91 = .ok (.aload_n 0, 1) := by decide +kernel
theorem dX6_count_92 : decode cX6_count 92 = .ok (.invokevirtual 51, 3) := by decide +kernel
theorem dX6_count_95 : decode cX6_count 95 = .ok (.invokevirtual 112, 3) := by decide +kernel
theorem dX6_count_98 : decode cX6_count 98 = .ok (.ireturn, 1) := by decide +kernel
theorem dX6_count_99 : decode cX6_count 99 = .ok (.aload_n 0, 1) := by decide +kernel
theorem dX6_count_100 : decode cX6_count 100 = .ok (.invokevirtual 67, 3) := by decide +kernel
theorem dX6_count_103 : decode cX6_count 103 = .ok (.invokevirtual 115, 3) := by decide +kernel
theorem dX6_count_106 : decode cX6_count 106 = .ok (.ireturn, 1) := by decide +kernel
theorem dX6_count_107 : decode cX6_count 107 = .ok (.aload_n 0, 1) := by decide +kernel
theorem dX6_count_108 : decode cX6_count 108 = .ok (.getfield 10, 3) := by decide +kernel
theorem dX6_count_111 : decode cX6_count 111 = .ok (.invokevirtual 118, 3) := by decide +kernel
theorem dX6_count_114 : decode cX6_count 114 = .ok (.ireturn, 1) := by decide +kernel
theorem dX6_count_115 : decode cX6_count 115 = .ok (.iconst (-1), 1) := by decide +kernel
theorem dX6_count_116 : decode cX6_count 116 = .ok (.ireturn, 1) := by decide +kernel
set_option maxRecDepth 20000 in
theorem ggX6_change_X6_freshView : GoodIn wsX6_change wsX6_freshView := goodIn_r _ [5, 6, 7, 8, 9, 10, 4, 11, 12, 13, 14, 15, 16, 17, 18, 19, 20, 21, 22, 23, 24, 25, 26, 27, 28, 29, 30, 31, 32, 33, 34, 35, 36, 37, 38, 39, 40, 41, 42, 43, 44, 45, 46, 47, 48, 49, 50, 51, 52, 53, 54, 55, 56, 57, 58, 59, 60, 61, 62, 63, 64, 65, 66, 67, 68, 69, 70, 71, 72, 73, 74, 75, 76, 77, 78, 79, 80, 81, 82, 83, 84, 85, 86, 87, 88, 89, 90, 91, 92, 93, 94, 95, 96, 97, 98, 99, 100, 101, 102, 103, 104, 105, 106, 107, 108, 123, 124, 125, 126, 127, 128, 129, 130, 131, 132, 133, 134, 135, 136, 137, 138, 139, 140, 141, 142, 143, 144] (by decide +kernel) (by decide +kernel)
set_option maxRecDepth 20000 in
theorem gX6_change_X6_freshView : GoodIn wsX6_change (wsV RX6 67 RX6 yX6_freshView wsX6_freshView) := goodIn_app (goodIn_of _ (by decide +kernel)) ggX6_change_X6_freshView
set_option maxRecDepth 20000 in
theorem ggX6_change_X5_changeNumber : GoodIn wsX6_change wsX5_changeNumber := goodIn_r _ [112, 113, 114, 115, 37, 116, 39, 74, 60, 61, 62, 45, 63, 47, 136, 137, 138, 139, 140, 141, 142, 143, 144] (by decide +kernel) (by decide +kernel)
set_option maxRecDepth 20000 in
theorem gX6_change_X5_changeNumber : GoodIn wsX6_change (wsV RX6 121 RX5 yX5_changeNumber wsX5_changeNumber) := goodIn_app (goodIn_of _ (by decide +kernel)) ggX6_change_X5_changeNumber
set_option maxRecDepth 20000 in
theorem ggX6_change_X6_installed : GoodIn wsX6_change wsX6_installed := goodIn_r _ [28, 12, 13, 14, 15, 16, 17, 18, 29, 30, 31, 22, 32, 33, 123, 124, 125, 126, 127, 128, 129, 130, 131, 132, 133, 134, 135] (by decide +kernel) (by decide +kernel)
set_option maxRecDepth 20000 in
theorem gX6_change_X6_installed : GoodIn wsX6_change (wsV RX6 64 RX6 yX6_installed wsX6_installed) := goodIn_app (goodIn_of _ (by decide +kernel)) ggX6_change_X6_installed
set_option maxRecDepth 20000 in
theorem ggX6_change_X3_hopAt : GoodIn wsX6_change wsX3_hopAt := goodIn_r _ [63, 47, 143, 144] (by decide +kernel) (by decide +kernel)
set_option maxRecDepth 20000 in
theorem gX6_change_X3_hopAt : GoodIn wsX6_change (wsV RX6 77 RX3 yX3_hopAt wsX3_hopAt) := goodIn_app (goodIn_of _ (by decide +kernel)) ggX6_change_X3_hopAt
set_option maxRecDepth 20000 in
theorem ggX6_change_X5_leastTable : GoodIn wsX6_change wsX5_leastTable := goodIn_r _ [121, 74, 136, 137, 138, 139, 140, 141, 142] (by decide +kernel) (by decide +kernel)
set_option maxRecDepth 20000 in
theorem gX6_change_X5_leastTable : GoodIn wsX6_change (wsV RX6 71 RX5 yX5_leastTable wsX5_leastTable) := goodIn_app (goodIn_of _ (by decide +kernel)) ggX6_change_X5_leastTable
set_option maxRecDepth 20000 in
theorem ggX6_change_X5_kindOfChange : GoodIn wsX6_change wsX5_kindOfChange := goodIn_r _ [116, 39, 74, 60, 61, 62, 45, 63, 47, 136, 137, 138, 139, 140, 141, 142, 143, 144] (by decide +kernel) (by decide +kernel)
set_option maxRecDepth 20000 in
theorem gX6_change_X5_kindOfChange : GoodIn wsX6_change (wsV RX6 124 RX5 yX5_kindOfChange wsX5_kindOfChange) := goodIn_app (goodIn_of _ (by decide +kernel)) ggX6_change_X5_kindOfChange
theorem dX6_change_0 : decode cX6_change 0 = .ok (.iload_n 1, 1) := by decide +kernel
theorem dX6_change_1 : decode cX6_change 1 = .ok (.ifCond .lt 12, 3) := by decide +kernel
theorem dX6_change_4 : decode cX6_change 4 = .ok (.iload_n 2, 1) := by decide +kernel
theorem dX6_change_5 : decode cX6_change 5 = .ok (.ifCond .lt 8, 3) := by decide +kernel
theorem dX6_change_8 : decode cX6_change 8 = .ok (.iload_n 2, 1) := by decide +kernel
theorem dX6_change_9 : decode cX6_change 9 = .ok (.iconst 3, 1) := by decide +kernel
theorem dX6_change_10 : decode cX6_change 10 = .ok (.if_icmp .le 5, 3) := by decide +kernel
theorem dX6_change_13 : decode cX6_change 13 = .ok (.iconst (-1), 1) := by decide +kernel
theorem dX6_change_14 : decode cX6_change 14 = .ok (.ireturn, 1) := by decide +kernel
theorem dX6_change_15 : decode cX6_change 15 = .ok (.aload_n 0, 1) := by decide +kernel
theorem dX6_change_16 : decode cX6_change 16 = .ok (.invokevirtual 67, 3) := by decide +kernel
theorem dX6_change_19 : decode cX6_change 19 = .ok (.astore_n 3, 1) := by decide +kernel
theorem dX6_change_20 : decode cX6_change 20 = .ok (.aload_n 3, 1) := by decide +kernel
theorem dX6_change_21 : decode cX6_change 21 = .ok (.iload_n 1, 1) := by decide +kernel
theorem dX6_change_22 : decode cX6_change 22 = .ok (.invokevirtual 121, 3) := by decide +kernel
theorem dX6_change_25 : decode cX6_change 25 = .ok (.istore 4, 2) := by decide +kernel
theorem dX6_change_27 : decode cX6_change 27 = .ok (.iload 4, 2) := by decide +kernel
theorem dX6_change_29 : decode cX6_change 29 = .ok (.bipush (-4), 2) := by decide +kernel
theorem dX6_change_31 : decode cX6_change 31 = .ok (.if_icmp .ne 6, 3) := by decide +kernel
theorem dX6_change_34 : decode cX6_change 34 = .ok (.bipush (-4), 2) := by decide +kernel
theorem dX6_change_36 : decode cX6_change 36 = .ok (.ireturn, 1) := by decide +kernel
theorem dX6_change_37 : decode cX6_change 37 = .ok (.iload_n 2, 1) := by decide +kernel
theorem dX6_change_38 : decode cX6_change 38 = .ok (.tableswitch 49 0 2 #[26, 29, 39], 26) := by decide +kernel
theorem dX6_change_64 : decode cX6_change 64 = .ok (.iload 4, 2) := by decide +kernel
theorem dX6_change_66 : decode cX6_change 66 = .ok (.ireturn, 1) := by decide +kernel
theorem dX6_change_67 : decode cX6_change 67 = .ok (.aload_n 0, 1) := by decide +kernel
theorem dX6_change_68 : decode cX6_change 68 = .ok (.invokevirtual 64, 3) := by decide +kernel
theorem dX6_change_71 : decode cX6_change 71 = .ok (.iload 4, 2) := by decide +kernel
theorem dX6_change_73 : decode cX6_change 73 = .ok (.invokevirtual 77, 3) := by decide +kernel
theorem dX6_change_76 : decode cX6_change 76 = .ok (.ireturn, 1) := by decide +kernel
theorem dX6_change_77 : decode cX6_change 77 = .ok (.aload_n 3, 1) := by decide +kernel
theorem dX6_change_78 : decode cX6_change 78 = .ok (.invokevirtual 71, 3) := by decide +kernel
theorem dX6_change_81 : decode cX6_change 81 = .ok (.iload 4, 2) := by decide +kernel
theorem dX6_change_83 : decode cX6_change 83 = .ok (.invokevirtual 77, 3) := by decide +kernel
theorem dX6_change_86 : decode cX6_change 86 = .ok (.ireturn, 1) := by decide +kernel
theorem dX6_change_87 : decode cX6_change 87 = .ok (.aload_n 3, 1) := by decide +kernel
theorem dX6_change_88 : decode cX6_change 88 = .ok (.iload 4, 2) := by decide +kernel
theorem dX6_change_90 : decode cX6_change 90 = .ok (.invokevirtual 124, 3) := by decide +kernel
theorem dX6_change_93 : decode cX6_change 93 = .ok (.ireturn, 1) := by decide +kernel
set_option maxRecDepth 20000 in
theorem ggX6_proof_X6_freshView : GoodIn wsX6_proof wsX6_freshView := goodIn_r _ [5, 6, 7, 8, 9, 10, 4, 11, 12, 13, 14, 15, 16, 17, 18, 19, 20, 21, 22, 23, 24, 25, 26, 27, 28, 29, 30, 31, 32, 33, 34, 35, 36, 37, 38, 39, 40, 41, 42, 43, 44, 45, 46, 47, 48, 49, 50, 51, 52, 53, 54, 55, 56, 57, 58, 59, 60, 61, 62, 63, 64, 65, 66, 67, 68, 69, 70, 71, 72, 73, 74, 75, 76, 77, 78, 79, 80, 81, 82, 83, 84, 85, 86, 87, 88, 89, 90, 91, 92, 93, 94, 95, 96, 97, 98, 99, 100, 101, 102, 103, 104, 105, 106, 107, 108, 144, 145, 146, 147, 148, 149, 150, 151, 152, 153, 154, 155, 156, 157, 158, 159, 160, 161, 162, 163, 164, 165] (by decide +kernel) (by decide +kernel)
set_option maxRecDepth 20000 in
theorem gX6_proof_X6_freshView : GoodIn wsX6_proof (wsV RX6 67 RX6 yX6_freshView wsX6_freshView) := goodIn_app (goodIn_of _ (by decide +kernel)) ggX6_proof_X6_freshView
set_option maxRecDepth 20000 in
theorem ggX6_proof_X5_proofNumber : GoodIn wsX6_proof wsX5_proofNumber := goodIn_r _ [112, 113, 114, 115, 37, 116, 117, 118, 119, 120, 40, 98, 4, 99, 121, 122, 123, 124, 91, 125, 126, 127, 128, 129, 130, 131, 132, 41, 133, 134, 135, 136, 137, 138, 139, 140, 93, 157, 158, 159, 160, 161, 162, 163] (by decide +kernel) (by decide +kernel)
set_option maxRecDepth 20000 in
theorem gX6_proof_X5_proofNumber : GoodIn wsX6_proof (wsV RX6 127 RX5 yX5_proofNumber wsX5_proofNumber) := goodIn_app (goodIn_of _ (by decide +kernel)) ggX6_proof_X5_proofNumber
set_option maxRecDepth 20000 in
theorem ggX6_proof_X5_hopsBeneath : GoodIn wsX6_proof wsX5_hopsBeneath := goodIn_r _ [120, 40, 98, 4, 99, 157, 158, 159, 160, 161, 162, 163] (by decide +kernel) (by decide +kernel)
set_option maxRecDepth 20000 in
theorem gX6_proof_X5_hopsBeneath : GoodIn wsX6_proof (wsV RX6 86 RX5 yX5_hopsBeneath wsX5_hopsBeneath) := goodIn_app (goodIn_of _ (by decide +kernel)) ggX6_proof_X5_hopsBeneath
set_option maxRecDepth 20000 in
theorem ggX6_proof_X6_lowestHop : GoodIn wsX6_proof wsX6_lowestHop := goodIn_r _ [88, 89, 90, 91, 92, 93] (by decide +kernel) (by decide +kernel)
set_option maxRecDepth 20000 in
theorem gX6_proof_X6_lowestHop : GoodIn wsX6_proof (va_wsS RX6 130 yX6_lowestHop wsX6_lowestHop) := goodIn_app (goodIn_of _ (by decide +kernel)) ggX6_proof_X6_lowestHop
set_option maxRecDepth 20000 in
theorem ggX6_proof_X5_installedHopsBeneath : GoodIn wsX6_proof wsX5_installedHopsBeneath := goodIn_r _ [132, 41, 98, 4, 99, 157, 158, 159, 160, 161, 162, 163] (by decide +kernel) (by decide +kernel)
set_option maxRecDepth 20000 in
theorem gX6_proof_X5_installedHopsBeneath : GoodIn wsX6_proof (wsV RX6 133 RX5 yX5_installedHopsBeneath wsX5_installedHopsBeneath) := goodIn_app (goodIn_of _ (by decide +kernel)) ggX6_proof_X5_installedHopsBeneath
theorem dX6_proof_0 : decode cX6_proof 0 = .ok (.iload_n 1, 1) := by decide +kernel
theorem dX6_proof_1 : decode cX6_proof 1 = .ok (.ifCond .lt 12, 3) := by decide +kernel
theorem dX6_proof_4 : decode cX6_proof 4 = .ok (.iload_n 2, 1) := by decide +kernel
theorem dX6_proof_5 : decode cX6_proof 5 = .ok (.ifCond .lt 8, 3) := by decide +kernel
theorem dX6_proof_8 : decode cX6_proof 8 = .ok (.iload_n 2, 1) := by decide +kernel
theorem dX6_proof_9 : decode cX6_proof 9 = .ok (.iconst 2, 1) := by decide +kernel
theorem dX6_proof_10 : decode cX6_proof 10 = .ok (.if_icmp .le 5, 3) := by decide +kernel
theorem dX6_proof_13 : decode cX6_proof 13 = .ok (.iconst (-1), 1) := by decide +kernel
theorem dX6_proof_14 : decode cX6_proof 14 = .ok (.ireturn, 1) := by decide +kernel
theorem dX6_proof_15 : decode cX6_proof 15 = .ok (.aload_n 0, 1) := by decide +kernel
theorem dX6_proof_16 : decode cX6_proof 16 = .ok (.invokevirtual 67, 3) := by decide +kernel
theorem dX6_proof_19 : decode cX6_proof 19 = .ok (.astore_n 3, 1) := by decide +kernel
theorem dX6_proof_20 : decode cX6_proof 20 = .ok (.aload_n 3, 1) := by decide +kernel
theorem dX6_proof_21 : decode cX6_proof 21 = .ok (.iload_n 1, 1) := by decide +kernel
theorem dX6_proof_22 : decode cX6_proof 22 = .ok (.invokevirtual 127, 3) := by decide +kernel
theorem dX6_proof_25 : decode cX6_proof 25 = .ok (.istore 4, 2) := by decide +kernel
theorem dX6_proof_27 : decode cX6_proof 27 = .ok (.iload 4, 2) := by decide +kernel
theorem dX6_proof_29 : decode cX6_proof 29 = .ok (.bipush (-4), 2) := by decide +kernel
theorem dX6_proof_31 : decode cX6_proof 31 = .ok (.if_icmp .ne 6, 3) := by decide +kernel
theorem dX6_proof_34 : decode cX6_proof 34 = .ok (.bipush (-4), 2) := by decide +kernel
theorem dX6_proof_36 : decode cX6_proof 36 = .ok (.ireturn, 1) := by decide +kernel
theorem dX6_proof_37 : decode cX6_proof 37 = .ok (.iload_n 2, 1) := by decide +kernel
theorem dX6_proof_38 : decode cX6_proof 38 = .ok (.lookupswitch 39 #[(0, 26), (1, 29)], 26) := by decide +kernel
theorem dX6_proof_64 : decode cX6_proof 64 = .ok (.iload 4, 2) := by decide +kernel
theorem dX6_proof_66 : decode cX6_proof 66 = .ok (.ireturn, 1) := by decide +kernel
theorem dX6_proof_67 : decode cX6_proof 67 = .ok (.aload_n 3, 1) := by decide +kernel
theorem dX6_proof_68 : decode cX6_proof 68 = .ok (.iload 4, 2) := by decide +kernel
theorem dX6_proof_70 : decode cX6_proof 70 = .ok (.invokevirtual 86, 3) := by decide +kernel
theorem dX6_proof_73 : decode cX6_proof 73 = .ok (.invokestatic 130, 3) := by decide +kernel
theorem dX6_proof_76 : decode cX6_proof 76 = .ok (.ireturn, 1) := by decide +kernel
theorem dX6_proof_77 : decode cX6_proof 77 = .ok (.aload_n 3, 1) := by decide +kernel
theorem dX6_proof_78 : decode cX6_proof 78 = .ok (.iload 4, 2) := by decide +kernel
theorem dX6_proof_80 : decode cX6_proof 80 = .ok (.invokevirtual 133, 3) := by decide +kernel
theorem dX6_proof_83 : decode cX6_proof 83 = .ok (.invokestatic 130, 3) := by decide +kernel
theorem dX6_proof_86 : decode cX6_proof 86 = .ok (.ireturn, 1) := by decide +kernel
set_option maxRecDepth 20000 in
theorem ggX6_lost_X6_isAddress : GoodIn wsX6_lost wsX6_isAddress := goodIn_r _ [5] (by decide +kernel) (by decide +kernel)
set_option maxRecDepth 20000 in
theorem gX6_lost_X6_isAddress : GoodIn wsX6_lost (va_wsS RX6 47 yX6_isAddress wsX6_isAddress) := goodIn_app (goodIn_of _ (by decide +kernel)) ggX6_lost_X6_isAddress
set_option maxRecDepth 20000 in
theorem ggX6_lost_X6_table : GoodIn wsX6_lost wsX6_table := goodIn_r _ [9, 10, 11, 12, 13, 14, 15, 16, 17, 18, 19, 20, 21, 22, 41, 42, 43, 44, 45, 46, 47, 48, 49, 50, 51, 52, 53] (by decide +kernel) (by decide +kernel)
set_option maxRecDepth 20000 in
theorem gX6_lost_X6_table : GoodIn wsX6_lost (wsV RX6 51 RX6 yX6_table wsX6_table) := goodIn_app (goodIn_of _ (by decide +kernel)) ggX6_lost_X6_table
set_option maxRecDepth 20000 in
theorem ggX6_lost_X3_hopOfAddress : GoodIn wsX6_lost wsX3_hopOfAddress := goodIn_r _ [27, 28, 29, 30, 26, 31, 32, 33, 34, 35, 36, 54, 55] (by decide +kernel) (by decide +kernel)
set_option maxRecDepth 20000 in
theorem gX6_lost_X3_hopOfAddress : GoodIn wsX6_lost (wsV RX6 55 RX3 yX3_hopOfAddress wsX3_hopOfAddress) := goodIn_app (goodIn_of _ (by decide +kernel)) ggX6_lost_X3_hopOfAddress
set_option maxRecDepth 20000 in
theorem ggX6_lost_X3_hopAt : GoodIn wsX6_lost wsX3_hopAt := goodIn_r _ [35, 36, 54, 55] (by decide +kernel) (by decide +kernel)
set_option maxRecDepth 20000 in
theorem gX6_lost_X3_hopAt : GoodIn wsX6_lost (wsV RX6 77 RX3 yX3_hopAt wsX3_hopAt) := goodIn_app (goodIn_of _ (by decide +kernel)) ggX6_lost_X3_hopAt
set_option maxRecDepth 20000 in
theorem ggX6_lost_X6_greatestDivisor : GoodIn wsX6_lost wsX6_greatestDivisor := goodIn_r _ [40] (by decide +kernel) (by decide +kernel)
set_option maxRecDepth 20000 in
theorem gX6_lost_X6_greatestDivisor : GoodIn wsX6_lost (va_wsS RX6 138 yX6_greatestDivisor wsX6_greatestDivisor) := goodIn_app (goodIn_of _ (by decide +kernel)) ggX6_lost_X6_greatestDivisor
theorem dX6_lost_0 : decode cX6_lost 0 = .ok (.iload_n 1, 1) := by decide +kernel
theorem dX6_lost_1 : decode cX6_lost 1 = .ok (.invokestatic 47, 3) := by decide +kernel
theorem dX6_lost_4 : decode cX6_lost 4 = .ok (.ifCond .eq 22, 3) := by decide +kernel
theorem dX6_lost_7 : decode cX6_lost 7 = .ok (.iload_n 2, 1) := by decide +kernel
theorem dX6_lost_8 : decode cX6_lost 8 = .ok (.ifCond .lt 18, 3) := by decide +kernel
theorem dX6_lost_11 : decode cX6_lost 11 = .ok (.iload_n 2, 1) := by decide +kernel
theorem dX6_lost_12 : decode cX6_lost 12 = .ok (.bipush 10, 2) := by decide +kernel
theorem dX6_lost_14 : decode cX6_lost 14 = .ok (.if_icmp .gt 12, 3) := by decide +kernel
theorem dX6_lost_17 : decode cX6_lost 17 = .ok (.iload_n 3, 1) := by decide +kernel
theorem dX6_lost_18 : decode cX6_lost 18 = .ok (.ifCond .lt 8, 3) := by decide +kernel
theorem dX6_lost_21 : decode cX6_lost 21 = .ok (.iload_n 3, 1) := by decide +kernel
theorem dX6_lost_22 : decode cX6_lost 22 = .ok (.iconst 1, 1) := by decide +kernel
theorem dX6_lost_23 : decode cX6_lost 23 = .ok (.if_icmp .le 5, 3) := by decide +kernel
theorem dX6_lost_26 : decode cX6_lost 26 = .ok (.iconst (-1), 1) := by decide +kernel
theorem dX6_lost_27 : decode cX6_lost 27 = .ok (.ireturn, 1) := by decide +kernel
theorem dX6_lost_28 : decode cX6_lost 28 = .ok (.aload_n 0, 1) := by decide +kernel
theorem dX6_lost_29 : decode cX6_lost 29 = .ok (.invokevirtual 51, 3) := by decide +kernel
theorem dX6_lost_32 : decode cX6_lost 32 = .ok (.iload_n 1, 1) := by decide +kernel
theorem dX6_lost_33 : decode cX6_lost 33 = .ok (.invokevirtual 55, 3) := by decide +kernel
theorem dX6_lost_36 : decode cX6_lost 36 = .ok (.istore 4, 2) := by decide +kernel
theorem dX6_lost_38 : decode cX6_lost 38 = .ok (.iload 4, 2) := by decide +kernel
theorem dX6_lost_40 : decode cX6_lost 40 = .ok (.ifCond .ne 7, 3) := by decide +kernel
theorem dX6_lost_43 : decode cX6_lost 43 = .ok (.lconst 1, 1) := by decide +kernel
theorem dX6_lost_44 : decode cX6_lost 44 = .ok (.goto 4, 3) := by decide +kernel
theorem dX6_lost_47 : decode cX6_lost 47 = .ok (.lconst 0, 1) := by decide +kernel
theorem dX6_lost_48 : decode cX6_lost 48 = .ok (.lstore 5, 2) := by decide +kernel
theorem dX6_lost_50 : decode cX6_lost 50 = .ok (.lconst 1, 1) := by decide +kernel
theorem dX6_lost_51 : decode cX6_lost 51 = .ok (.lstore 7, 2) := by decide +kernel
theorem dX6_lost_53 : decode cX6_lost 53 = .ok (.iconst 0, 1) := by decide +kernel
theorem dX6_lost_54 : decode cX6_lost 54 = .ok (.istore 9, 2) := by decide +kernel
theorem dX6_lost_56 : decode cX6_lost 56 = .ok (.iload 9, 2) := by decide +kernel
theorem dX6_lost_58 : decode cX6_lost 58 = .ok (.bipush 8, 2) := by decide +kernel
theorem dX6_lost_60 : decode cX6_lost 60 = .ok (.if_icmp .gt 71, 3) := by decide +kernel
theorem dX6_lost_63 : decode cX6_lost 63 = .ok (.aload_n 0, 1) := by decide +kernel
theorem dX6_lost_64 : decode cX6_lost 64 = .ok (.invokevirtual 51, 3) := by decide +kernel
theorem dX6_lost_67 : decode cX6_lost 67 = .ok (.sipush 256, 3) := by decide +kernel
theorem dX6_lost_70 : decode cX6_lost 70 = .ok (.iload_n 1, 1) := by decide +kernel
theorem dX6_lost_71 : decode cX6_lost 71 = .ok (.iadd, 1) := by decide +kernel
theorem dX6_lost_72 : decode cX6_lost 72 = .ok (.bipush 8, 2) := by decide +kernel
theorem dX6_lost_74 : decode cX6_lost 74 = .ok (.iload 9, 2) := by decide +kernel
theorem dX6_lost_76 : decode cX6_lost 76 = .ok (.isub, 1) := by decide +kernel
theorem dX6_lost_77 : decode cX6_lost 77 = .ok (.ishr, 1) := by decide +kernel
theorem dX6_lost_78 : decode cX6_lost 78 = .ok (.invokevirtual 77, 3) := by decide +kernel
theorem dX6_lost_81 : decode cX6_lost 81 = .ok (.istore 10, 2) := by decide +kernel
theorem dX6_lost_83 : decode cX6_lost 83 = .ok (.iload 10, 2) := by decide +kernel
theorem dX6_lost_85 : decode cX6_lost 85 = .ok (.bipush (-4), 2) := by decide +kernel
theorem dX6_lost_87 : decode cX6_lost 87 = .ok (.if_icmp .eq 38, 3) := by decide +kernel
theorem dX6_lost_90 : decode cX6_lost 90 = .ok (.iload_n 2, 1) := by decide +kernel
theorem dX6_lost_91 : decode cX6_lost 91 = .ok (.i2l, 1) := by decide +kernel
theorem dX6_lost_92 : decode cX6_lost 92 = .ok (.lload 5, 2) := by decide +kernel
theorem dX6_lost_94 : decode cX6_lost 94 = .ok (.lmul, 1) := by decide +kernel
theorem dX6_lost_95 : decode cX6_lost 95 = .ok (.iload 10, 2) := by decide +kernel
theorem dX6_lost_97 : decode cX6_lost 97 = .ok (.iload 4, 2) := by decide +kernel
theorem dX6_lost_99 : decode cX6_lost 99 = .ok (.if_icmp .ne 14, 3) := by decide +kernel
theorem dX6_lost_102 : decode cX6_lost 102 = .ok (.bipush 10, 2) := by decide +kernel
theorem dX6_lost_104 : decode cX6_lost 104 = .ok (.iload_n 2, 1) := by decide +kernel
theorem dX6_lost_105 : decode cX6_lost 105 = .ok (.isub, 1) := by decide +kernel
theorem dX6_lost_106 : decode cX6_lost 106 = .ok (.i2l, 1) := by decide +kernel
theorem dX6_lost_107 : decode cX6_lost 107 = .ok (.lload 7, 2) := by decide +kernel
theorem dX6_lost_109 : decode cX6_lost 109 = .ok (.lmul, 1) := by decide +kernel
theorem dX6_lost_110 : decode cX6_lost 110 = .ok (.goto 4, 3) := by decide +kernel
theorem dX6_lost_113 : decode cX6_lost 113 = .ok (.lconst 0, 1) := by decide +kernel
theorem dX6_lost_114 : decode cX6_lost 114 = .ok (.ladd, 1) := by decide +kernel
theorem dX6_lost_115 : decode cX6_lost 115 = .ok (.lstore 5, 2) := by decide +kernel
theorem dX6_lost_117 : decode cX6_lost 117 = .ok (.ldc2_w 136, 3) := by decide +kernel
theorem dX6_lost_120 : decode cX6_lost 120 = .ok (.lload 7, 2) := by decide +kernel
theorem dX6_lost_122 : decode cX6_lost 122 = .ok (.lmul, 1) := by decide +kernel
theorem dX6_lost_123 : decode cX6_lost 123 = .ok (.lstore 7, 2) := by decide +kernel
theorem dX6_lost_125 : decode cX6_lost 125 = .ok (.iinc 9 1, 3) := by decide +kernel
theorem dX6_lost_128 : decode cX6_lost 128 = .ok (.goto (-72), 3) := by decide +kernel
theorem dX6_lost_131 : decode cX6_lost 131 = .ok (.lload 5, 2) := by decide +kernel
theorem dX6_lost_133 : decode cX6_lost 133 = .ok (.lload 7, 2) := by decide +kernel
theorem dX6_lost_135 : decode cX6_lost 135 = .ok (.invokestatic 138, 3) := by decide +kernel
theorem dX6_lost_138 : decode cX6_lost 138 = .ok (.lstore 9, 2) := by decide +kernel
theorem dX6_lost_140 : decode cX6_lost 140 = .ok (.lload 9, 2) := by decide +kernel
theorem dX6_lost_142 : decode cX6_lost 142 = .ok (.lconst 0, 1) := by decide +kernel
theorem dX6_lost_143 : decode cX6_lost 143 = .ok (.lcmp, 1) := by decide +kernel
theorem dX6_lost_144 : decode cX6_lost 144 = .ok (.ifCond .gt 5, 3) := by decide +kernel
theorem dX6_lost_147 : decode cX6_lost 147 = .ok (.iconst (-1), 1) := by decide +kernel
theorem dX6_lost_148 : decode cX6_lost 148 = .ok (.ireturn, 1) := by decide +kernel
theorem dX6_lost_149 : decode cX6_lost 149 = .ok (.iload_n 3, 1) := by decide +kernel
theorem dX6_lost_150 : decode cX6_lost 150 = .ok (.ifCond .ne 8, 3) := by decide +kernel
theorem dX6_lost_153 : decode cX6_lost 153 = .ok (.lload 5, 2) := by decide +kernel
theorem dX6_lost_155 : decode cX6_lost 155 = .ok (.goto 5, 3) := by decide +kernel
theorem dX6_lost_158 : decode cX6_lost 158 = .ok (.lload 7, 2) := by decide +kernel
theorem dX6_lost_160 : decode cX6_lost 160 = .ok (.lload 9, 2) := by decide +kernel
theorem dX6_lost_162 : decode cX6_lost 162 = .ok (.ldiv, 1) := by decide +kernel
theorem dX6_lost_163 : decode cX6_lost 163 = .ok (.l2i, 1) := by decide +kernel
theorem dX6_lost_164 : decode cX6_lost 164 = .ok (.ireturn, 1) := by decide +kernel
set_option maxRecDepth 20000 in
theorem ggX6_tell_X6_isPrefix : GoodIn wsX6_tell wsX6_isPrefix := goodIn_r _ [4] (by decide +kernel) (by decide +kernel)
set_option maxRecDepth 20000 in
theorem gX6_tell_X6_isPrefix : GoodIn wsX6_tell (va_wsS RX6 74 yX6_isPrefix wsX6_isPrefix) := goodIn_app (goodIn_of _ (by decide +kernel)) ggX6_tell_X6_isPrefix
set_option maxRecDepth 20000 in
theorem ggX6_tell_X6_isHop : GoodIn wsX6_tell wsX6_isHop := goodIn_r _ [7] (by decide +kernel) (by decide +kernel)
set_option maxRecDepth 20000 in
theorem gX6_tell_X6_isHop : GoodIn wsX6_tell (va_wsS RX6 92 yX6_isHop wsX6_isHop) := goodIn_app (goodIn_of _ (by decide +kernel)) ggX6_tell_X6_isHop
set_option maxRecDepth 20000 in
theorem ggX6_tell_X6_table : GoodIn wsX6_tell wsX6_table := goodIn_r _ [11, 12, 13, 14, 15, 16, 17, 18, 19, 20, 21, 22, 23, 24, 76, 77, 78, 79, 80, 81, 82, 83, 84, 85, 86, 87, 88] (by decide +kernel) (by decide +kernel)
set_option maxRecDepth 20000 in
theorem gX6_tell_X6_table : GoodIn wsX6_tell (wsV RX6 51 RX6 yX6_table wsX6_table) := goodIn_app (goodIn_of _ (by decide +kernel)) ggX6_tell_X6_table
set_option maxRecDepth 20000 in
theorem ggX6_tell_X3_hopAt : GoodIn wsX6_tell wsX3_hopAt := goodIn_r _ [29, 30, 89, 90] (by decide +kernel) (by decide +kernel)
set_option maxRecDepth 20000 in
theorem gX6_tell_X3_hopAt : GoodIn wsX6_tell (wsV RX6 77 RX3 yX3_hopAt wsX3_hopAt) := goodIn_app (goodIn_of _ (by decide +kernel)) ggX6_tell_X3_hopAt
set_option maxRecDepth 20000 in
theorem ggX6_tell_X3_howMany : GoodIn wsX6_tell wsX3_howMany := goodIn_r _ [34, 35, 89, 90] (by decide +kernel) (by decide +kernel)
set_option maxRecDepth 20000 in
theorem gX6_tell_X3_howMany : GoodIn wsX6_tell (wsV RX6 102 RX3 yX3_howMany wsX3_howMany) := goodIn_app (goodIn_of _ (by decide +kernel)) ggX6_tell_X3_howMany
set_option maxRecDepth 20000 in
theorem ggX6_tell_X6_beginStep : GoodIn wsX6_tell wsX6_beginStep := goodIn_r _ [39, 12, 40, 41, 42, 43, 16, 44, 45, 46, 18, 47, 48, 49, 50, 51, 52, 53, 22, 54, 24, 55, 56, 57, 58, 59, 28, 60, 30, 61, 62, 63, 64, 35, 76, 77, 78, 79, 80, 81, 82, 83, 84, 85, 86, 87, 88, 89, 90] (by decide +kernel) (by decide +kernel)
set_option maxRecDepth 20000 in
theorem gX6_tell_X6_beginStep : GoodIn wsX6_tell (wsV RX6 142 RX6 yX6_beginStep wsX6_beginStep) := goodIn_app (goodIn_of _ (by decide +kernel)) ggX6_tell_X6_beginStep
set_option maxRecDepth 20000 in
theorem ggX6_tell_X3_put : GoodIn wsX6_tell wsX3_put := goodIn_r _ [68, 35, 2, 3, 4, 6, 7, 69, 26, 27, 28, 29, 30, 70, 71, 72, 73, 74, 75, 89, 90] (by decide +kernel) (by decide +kernel)
set_option maxRecDepth 20000 in
theorem gX6_tell_X3_put : GoodIn wsX6_tell (wsV RX6 145 RX3 yX3_put wsX3_put) := goodIn_app (goodIn_of _ (by decide +kernel)) ggX6_tell_X3_put
theorem dX6_tell_0 : decode cX6_tell 0 = .ok (.iload_n 1, 1) := by decide +kernel
theorem dX6_tell_1 : decode cX6_tell 1 = .ok (.invokestatic 74, 3) := by decide +kernel
theorem dX6_tell_4 : decode cX6_tell 4 = .ok (.ifCond .eq 10, 3) := by decide +kernel
theorem dX6_tell_7 : decode cX6_tell 7 = .ok (.iload_n 2, 1) := by decide +kernel
theorem dX6_tell_8 : decode cX6_tell 8 = .ok (.invokestatic 92, 3) := by decide +kernel
theorem dX6_tell_11 : decode cX6_tell 11 = .ok (.ifCond .ne 5, 3) := by decide +kernel
theorem dX6_tell_14 : decode cX6_tell 14 = .ok (.iconst (-1), 1) := by decide +kernel
theorem dX6_tell_15 : decode cX6_tell 15 = .ok (.ireturn, 1) := by decide +kernel
theorem dX6_tell_16 : decode cX6_tell 16 = .ok (.aload_n 0, 1) := by decide +kernel
theorem dX6_tell_17 : decode cX6_tell 17 = .ok (.invokevirtual 51, 3) := by decide +kernel
theorem dX6_tell_20 : decode cX6_tell 20 = .ok (.iload_n 1, 1) := by decide +kernel
theorem dX6_tell_21 : decode cX6_tell 21 = .ok (.invokevirtual 77, 3) := by decide +kernel
theorem dX6_tell_24 : decode cX6_tell 24 = .ok (.istore_n 3, 1) := by decide +kernel
theorem dX6_tell_25 : decode cX6_tell 25 = .ok (.iload_n 3, 1) := by decide +kernel
theorem dX6_tell_26 : decode cX6_tell 26 = .ok (.iload_n 2, 1) := by decide +kernel
theorem dX6_tell_27 : decode cX6_tell 27 = .ok (.if_icmp .ne 6, 3) := by decide +kernel
theorem dX6_tell_30 : decode cX6_tell 30 = .ok (.bipush (-2), 2) := by decide +kernel
theorem dX6_tell_32 : decode cX6_tell 32 = .ok (.ireturn, 1) := by decide +kernel
theorem dX6_tell_33 : decode cX6_tell 33 = .ok (.iload_n 3, 1) := by decide +kernel
theorem dX6_tell_34 : decode cX6_tell 34 = .ok (.bipush (-4), 2) := by decide +kernel
theorem dX6_tell_36 : decode cX6_tell 36 = .ok (.if_icmp .ne 18, 3) := by decide +kernel
theorem dX6_tell_39 : decode cX6_tell 39 = .ok (.aload_n 0, 1) := by decide +kernel
theorem dX6_tell_40 : decode cX6_tell 40 = .ok (.invokevirtual 51, 3) := by decide +kernel
theorem dX6_tell_43 : decode cX6_tell 43 = .ok (.invokevirtual 102, 3) := by decide +kernel
theorem dX6_tell_46 : decode cX6_tell 46 = .ok (.bipush 40, 2) := by decide +kernel
theorem dX6_tell_48 : decode cX6_tell 48 = .ok (.if_icmp .lt 6, 3) := by decide +kernel
theorem dX6_tell_51 : decode cX6_tell 51 = .ok (.bipush (-3), 2) := by decide +kernel
theorem dX6_tell_53 : decode cX6_tell 53 = .ok (.ireturn, 1) := by decide +kernel
theorem dX6_tell_54 : decode cX6_tell 54 = .ok (.aload_n 0, 1) := by decide +kernel
theorem dX6_tell_55 : decode cX6_tell 55 = .ok (.invokevirtual 142, 3) := by decide +kernel
theorem dX6_tell_58 : decode cX6_tell 58 = .ok (.aload_n 0, 1) := by decide +kernel
theorem dX6_tell_59 : decode cX6_tell 59 = .ok (.invokevirtual 51, 3) := by decide +kernel
theorem dX6_tell_62 : decode cX6_tell 62 = .ok (.iload_n 1, 1) := by decide +kernel
theorem dX6_tell_63 : decode cX6_tell 63 = .ok (.iload_n 2, 1) := by decide +kernel
theorem dX6_tell_64 : decode cX6_tell 64 = .ok (.invokevirtual 145, 3) := by decide +kernel
theorem dX6_tell_67 : decode cX6_tell 67 = .ok (.iload_n 3, 1) := by decide +kernel
theorem dX6_tell_68 : decode cX6_tell 68 = .ok (.bipush (-4), 2) := by decide +kernel
theorem dX6_tell_70 : decode cX6_tell 70 = .ok (.if_icmp .ne 8, 3) := by decide +kernel
theorem dX6_tell_73 : decode cX6_tell 73 = .ok (.bipush 8, 2) := by decide +kernel
theorem dX6_tell_75 : decode cX6_tell 75 = .ok (.goto 4, 3) := by decide +kernel
theorem dX6_tell_78 : decode cX6_tell 78 = .ok (.iload_n 3, 1) := by decide +kernel
theorem dX6_tell_79 : decode cX6_tell 79 = .ok (.ireturn, 1) := by decide +kernel
set_option maxRecDepth 20000 in
theorem ggX6_out_X6_isPrefix : GoodIn wsX6_out wsX6_isPrefix := goodIn_r _ [4] (by decide +kernel) (by decide +kernel)
set_option maxRecDepth 20000 in
theorem gX6_out_X6_isPrefix : GoodIn wsX6_out (va_wsS RX6 74 yX6_isPrefix wsX6_isPrefix) := goodIn_app (goodIn_of _ (by decide +kernel)) ggX6_out_X6_isPrefix
set_option maxRecDepth 20000 in
theorem ggX6_out_X6_table : GoodIn wsX6_out wsX6_table := goodIn_r _ [8, 9, 10, 11, 12, 13, 14, 15, 16, 17, 18, 19, 20, 21, 69, 70, 71, 72, 73, 74, 75, 76, 77, 78, 79, 80, 81] (by decide +kernel) (by decide +kernel)
set_option maxRecDepth 20000 in
theorem gX6_out_X6_table : GoodIn wsX6_out (wsV RX6 51 RX6 yX6_table wsX6_table) := goodIn_app (goodIn_of _ (by decide +kernel)) ggX6_out_X6_table
set_option maxRecDepth 20000 in
theorem ggX6_out_X3_hopAt : GoodIn wsX6_out wsX3_hopAt := goodIn_r _ [26, 27, 82, 83] (by decide +kernel) (by decide +kernel)
set_option maxRecDepth 20000 in
theorem gX6_out_X3_hopAt : GoodIn wsX6_out (wsV RX6 77 RX3 yX3_hopAt wsX3_hopAt) := goodIn_app (goodIn_of _ (by decide +kernel)) ggX6_out_X3_hopAt
set_option maxRecDepth 20000 in
theorem ggX6_out_X6_beginStep : GoodIn wsX6_out wsX6_beginStep := goodIn_r _ [31, 9, 32, 33, 34, 35, 13, 36, 37, 38, 15, 39, 40, 41, 42, 43, 44, 45, 19, 46, 21, 47, 48, 49, 50, 51, 25, 52, 27, 53, 54, 55, 56, 57, 69, 70, 71, 72, 73, 74, 75, 76, 77, 78, 79, 80, 81, 82, 83] (by decide +kernel) (by decide +kernel)
set_option maxRecDepth 20000 in
theorem gX6_out_X6_beginStep : GoodIn wsX6_out (wsV RX6 142 RX6 yX6_beginStep wsX6_beginStep) := goodIn_app (goodIn_of _ (by decide +kernel)) ggX6_out_X6_beginStep
set_option maxRecDepth 20000 in
theorem ggX6_out_X3_takeOut : GoodIn wsX6_out wsX3_takeOut := goodIn_r _ [61, 57, 62, 23, 24, 25, 26, 27, 63, 64, 65, 66, 67, 68, 82, 83] (by decide +kernel) (by decide +kernel)
set_option maxRecDepth 20000 in
theorem gX6_out_X3_takeOut : GoodIn wsX6_out (wsV RX6 149 RX3 yX3_takeOut wsX3_takeOut) := goodIn_app (goodIn_of _ (by decide +kernel)) ggX6_out_X3_takeOut
theorem dX6_out_0 : decode cX6_out 0 = .ok (.iload_n 1, 1) := by decide +kernel
theorem dX6_out_1 : decode cX6_out 1 = .ok (.invokestatic 74, 3) := by decide +kernel
theorem dX6_out_4 : decode cX6_out 4 = .ok (.ifCond .ne 5, 3) := by decide +kernel
theorem dX6_out_7 : decode cX6_out 7 = .ok (.iconst (-1), 1) := by decide +kernel
theorem dX6_out_8 : decode cX6_out 8 = .ok (.ireturn, 1) := by decide +kernel
theorem dX6_out_9 : decode cX6_out 9 = .ok (.aload_n 0, 1) := by decide +kernel
theorem dX6_out_10 : decode cX6_out 10 = .ok (.invokevirtual 51, 3) := by decide +kernel
theorem dX6_out_13 : decode cX6_out 13 = .ok (.iload_n 1, 1) := by decide +kernel
theorem dX6_out_14 : decode cX6_out 14 = .ok (.invokevirtual 77, 3) := by decide +kernel
theorem dX6_out_17 : decode cX6_out 17 = .ok (.istore_n 2, 1) := by decide +kernel
theorem dX6_out_18 : decode cX6_out 18 = .ok (.iload_n 2, 1) := by decide +kernel
theorem dX6_out_19 : decode cX6_out 19 = .ok (.bipush (-4), 2) := by decide +kernel
theorem dX6_out_21 : decode cX6_out 21 = .ok (.if_icmp .ne 6, 3) := by decide +kernel
theorem dX6_out_24 : decode cX6_out 24 = .ok (.bipush (-4), 2) := by decide +kernel
theorem dX6_out_26 : decode cX6_out 26 = .ok (.ireturn, 1) := by decide +kernel
theorem dX6_out_27 : decode cX6_out 27 = .ok (.aload_n 0, 1) := by decide +kernel
theorem dX6_out_28 : decode cX6_out 28 = .ok (.invokevirtual 142, 3) := by decide +kernel
theorem dX6_out_31 : decode cX6_out 31 = .ok (.aload_n 0, 1) := by decide +kernel
theorem dX6_out_32 : decode cX6_out 32 = .ok (.invokevirtual 51, 3) := by decide +kernel
theorem dX6_out_35 : decode cX6_out 35 = .ok (.iload_n 1, 1) := by decide +kernel
theorem dX6_out_36 : decode cX6_out 36 = .ok (.invokevirtual 149, 3) := by decide +kernel
theorem dX6_out_39 : decode cX6_out 39 = .ok (.iload_n 2, 1) := by decide +kernel
theorem dX6_out_40 : decode cX6_out 40 = .ok (.ireturn, 1) := by decide +kernel
set_option maxRecDepth 20000 in
theorem ggX6_rename_X6_isHop : GoodIn wsX6_rename wsX6_isHop := goodIn_r _ [4] (by decide +kernel) (by decide +kernel)
set_option maxRecDepth 20000 in
theorem gX6_rename_X6_isHop : GoodIn wsX6_rename (va_wsS RX6 92 yX6_isHop wsX6_isHop) := goodIn_app (goodIn_of _ (by decide +kernel)) ggX6_rename_X6_isHop
set_option maxRecDepth 20000 in
theorem ggX6_rename_X6_table : GoodIn wsX6_rename wsX6_table := goodIn_r _ [8, 9, 10, 11, 12, 13, 14, 15, 16, 17, 18, 19, 20, 21, 78, 79, 80, 81, 82, 83, 84, 85, 86, 87, 88, 89, 90] (by decide +kernel) (by decide +kernel)
set_option maxRecDepth 20000 in
theorem gX6_rename_X6_table : GoodIn wsX6_rename (wsV RX6 51 RX6 yX6_table wsX6_table) := goodIn_app (goodIn_of _ (by decide +kernel)) ggX6_rename_X6_table
set_option maxRecDepth 20000 in
theorem ggX6_rename_X3_hasHop : GoodIn wsX6_rename wsX3_hasHop := goodIn_r _ [26, 27, 28, 29, 25, 30, 31, 91, 92] (by decide +kernel) (by decide +kernel)
set_option maxRecDepth 20000 in
theorem gX6_rename_X3_hasHop : GoodIn wsX6_rename (wsV RX6 153 RX3 yX3_hasHop wsX3_hasHop) := goodIn_app (goodIn_of _ (by decide +kernel)) ggX6_rename_X3_hasHop
set_option maxRecDepth 20000 in
theorem ggX6_rename_X6_beginStep : GoodIn wsX6_rename wsX6_beginStep := goodIn_r _ [35, 9, 36, 37, 38, 39, 13, 40, 41, 42, 15, 43, 44, 45, 46, 47, 48, 49, 19, 50, 21, 51, 52, 53, 54, 55, 25, 56, 31, 57, 58, 59, 60, 61, 78, 79, 80, 81, 82, 83, 84, 85, 86, 87, 88, 89, 90, 91, 92] (by decide +kernel) (by decide +kernel)
set_option maxRecDepth 20000 in
theorem gX6_rename_X6_beginStep : GoodIn wsX6_rename (wsV RX6 142 RX6 yX6_beginStep wsX6_beginStep) := goodIn_app (goodIn_of _ (by decide +kernel)) ggX6_rename_X6_beginStep
set_option maxRecDepth 20000 in
theorem ggX6_rename_X3_replaceHop : GoodIn wsX6_rename wsX3_replaceHop := goodIn_r _ [65, 27, 28, 29, 25, 30, 31, 66, 67, 68, 69, 61, 70, 3, 71, 2, 4, 72, 73, 74, 75, 76, 77, 91, 92] (by decide +kernel) (by decide +kernel)
set_option maxRecDepth 20000 in
theorem gX6_rename_X3_replaceHop : GoodIn wsX6_rename (wsV RX6 156 RX3 yX3_replaceHop wsX3_replaceHop) := goodIn_app (goodIn_of _ (by decide +kernel)) ggX6_rename_X3_replaceHop
theorem dX6_rename_0 : decode cX6_rename 0 = .ok (.iload_n 1, 1) := by decide +kernel
theorem dX6_rename_1 : decode cX6_rename 1 = .ok (.invokestatic 92, 3) := by decide +kernel
theorem dX6_rename_4 : decode cX6_rename 4 = .ok (.ifCond .eq 10, 3) := by decide +kernel
theorem dX6_rename_7 : decode cX6_rename 7 = .ok (.iload_n 2, 1) := by decide +kernel
theorem dX6_rename_8 : decode cX6_rename 8 = .ok (.invokestatic 92, 3) := by decide +kernel
theorem dX6_rename_11 : decode cX6_rename 11 = .ok (.ifCond .ne 5, 3) := by decide +kernel
theorem dX6_rename_14 : decode cX6_rename 14 = .ok (.iconst (-1), 1) := by decide +kernel
theorem dX6_rename_15 : decode cX6_rename 15 = .ok (.ireturn, 1) := by decide +kernel
theorem dX6_rename_16 : decode cX6_rename 16 = .ok (.iload_n 1, 1) := by decide +kernel
theorem dX6_rename_17 : decode cX6_rename 17 = .ok (.iload_n 2, 1) := by decide +kernel
theorem dX6_rename_18 : decode cX6_rename 18 = .ok (.if_icmp .ne 6, 3) := by decide +kernel
theorem dX6_rename_21 : decode cX6_rename 21 = .ok (.bipush (-2), 2) := by decide +kernel
theorem dX6_rename_23 : decode cX6_rename 23 = .ok (.ireturn, 1) := by decide +kernel
theorem dX6_rename_24 : decode cX6_rename 24 = .ok (.aload_n 0, 1) := by decide +kernel
theorem dX6_rename_25 : decode cX6_rename 25 = .ok (.invokevirtual 51, 3) := by decide +kernel
theorem dX6_rename_28 : decode cX6_rename 28 = .ok (.iload_n 1, 1) := by decide +kernel
theorem dX6_rename_29 : decode cX6_rename 29 = .ok (.invokevirtual 153, 3) := by decide +kernel
theorem dX6_rename_32 : decode cX6_rename 32 = .ok (.ifCond .ne 6, 3) := by decide +kernel
theorem dX6_rename_35 : decode cX6_rename 35 = .ok (.bipush (-4), 2) := by decide +kernel
theorem dX6_rename_37 : decode cX6_rename 37 = .ok (.ireturn, 1) := by decide +kernel
theorem dX6_rename_38 : decode cX6_rename 38 = .ok (.aload_n 0, 1) := by decide +kernel
theorem dX6_rename_39 : decode cX6_rename 39 = .ok (.invokevirtual 142, 3) := by decide +kernel
theorem dX6_rename_42 : decode cX6_rename 42 = .ok (.aload_n 0, 1) := by decide +kernel
theorem dX6_rename_43 : decode cX6_rename 43 = .ok (.invokevirtual 51, 3) := by decide +kernel
theorem dX6_rename_46 : decode cX6_rename 46 = .ok (.iload_n 1, 1) := by decide +kernel
theorem dX6_rename_47 : decode cX6_rename 47 = .ok (.iload_n 2, 1) := by decide +kernel
theorem dX6_rename_48 : decode cX6_rename 48 = .ok (.invokevirtual 156, 3) := by decide +kernel
theorem dX6_rename_51 : decode cX6_rename 51 = .ok (.ireturn, 1) := by decide +kernel
set_option maxRecDepth 20000 in
theorem ggX6_install_X6_freshView : GoodIn wsX6_install wsX6_freshView := goodIn_r _ [5, 6, 7, 8, 9, 10, 4, 11, 12, 13, 14, 15, 16, 17, 18, 19, 20, 21, 22, 23, 24, 25, 26, 27, 28, 29, 30, 31, 32, 33, 34, 35, 36, 37, 38, 39, 40, 41, 42, 43, 44, 45, 46, 47, 48, 49, 50, 51, 52, 53, 54, 55, 56, 57, 58, 59, 60, 61, 62, 63, 64, 65, 66, 67, 68, 69, 70, 71, 72, 73, 74, 75, 76, 77, 78, 79, 80, 81, 82, 83, 84, 85, 86, 87, 88, 89, 90, 91, 92, 93, 94, 95, 96, 97, 98, 99, 100, 101, 102, 103, 104, 105, 106, 107, 108, 142, 143, 144, 145, 146, 147, 148, 149, 150, 151, 152, 153, 154, 155, 156, 157, 158, 159, 160, 161, 162, 163] (by decide +kernel) (by decide +kernel)
set_option maxRecDepth 20000 in
theorem gX6_install_X6_freshView : GoodIn wsX6_install (wsV RX6 67 RX6 yX6_freshView wsX6_freshView) := goodIn_app (goodIn_of _ (by decide +kernel)) ggX6_install_X6_freshView
set_option maxRecDepth 20000 in
theorem ggX6_install_X5_countChanges : GoodIn wsX6_install wsX5_countChanges := goodIn_r _ [112, 113, 114, 115, 37, 116, 39, 74, 60, 61, 62, 45, 63, 47, 155, 156, 157, 158, 159, 160, 161, 162, 163] (by decide +kernel) (by decide +kernel)
set_option maxRecDepth 20000 in
theorem gX6_install_X5_countChanges : GoodIn wsX6_install (wsV RX6 106 RX5 yX5_countChanges wsX5_countChanges) := goodIn_app (goodIn_of _ (by decide +kernel)) ggX6_install_X5_countChanges
set_option maxRecDepth 20000 in
theorem ggX6_install_X6_beginStep : GoodIn wsX6_install wsX6_beginStep := goodIn_r _ [120, 12, 6, 121, 122, 123, 16, 124, 125, 126, 18, 127, 128, 129, 130, 131, 132, 133, 22, 134, 24, 33, 135, 136, 43, 44, 45, 46, 47, 48, 49, 50, 51, 52, 142, 143, 144, 145, 146, 147, 148, 149, 150, 151, 152, 153, 154, 162, 163] (by decide +kernel) (by decide +kernel)
set_option maxRecDepth 20000 in
theorem gX6_install_X6_beginStep : GoodIn wsX6_install (wsV RX6 142 RX6 yX6_beginStep wsX6_beginStep) := goodIn_app (goodIn_of _ (by decide +kernel)) ggX6_install_X6_beginStep
set_option maxRecDepth 20000 in
theorem ggX6_install_X6_installed : GoodIn wsX6_install wsX6_installed := goodIn_r _ [28, 12, 13, 14, 15, 16, 17, 18, 29, 30, 31, 22, 32, 33, 142, 143, 144, 145, 146, 147, 148, 149, 150, 151, 152, 153, 154] (by decide +kernel) (by decide +kernel)
set_option maxRecDepth 20000 in
theorem gX6_install_X6_installed : GoodIn wsX6_install (wsV RX6 64 RX6 yX6_installed wsX6_installed) := goodIn_app (goodIn_of _ (by decide +kernel)) ggX6_install_X6_installed
set_option maxRecDepth 20000 in
theorem ggX6_install_X5_leastTable : GoodIn wsX6_install wsX5_leastTable := goodIn_r _ [140, 74, 155, 156, 157, 158, 159, 160, 161] (by decide +kernel) (by decide +kernel)
set_option maxRecDepth 20000 in
theorem gX6_install_X5_leastTable : GoodIn wsX6_install (wsV RX6 71 RX5 yX5_leastTable wsX5_leastTable) := goodIn_app (goodIn_of _ (by decide +kernel)) ggX6_install_X5_leastTable
set_option maxRecDepth 20000 in
theorem ggX6_install_X3_takeFrom : GoodIn wsX6_install wsX3_takeFrom := goodIn_r _ [46, 47, 48, 49, 50, 51, 52, 162, 163] (by decide +kernel) (by decide +kernel)
set_option maxRecDepth 20000 in
theorem gX6_install_X3_takeFrom : GoodIn wsX6_install (wsV RX6 159 RX3 yX3_takeFrom wsX3_takeFrom) := goodIn_app (goodIn_of _ (by decide +kernel)) ggX6_install_X3_takeFrom
theorem dX6_install_0 : decode cX6_install 0 = .ok (.aload_n 0, 1) := by decide +kernel
theorem dX6_install_1 : decode cX6_install 1 = .ok (.invokevirtual 67, 3) := by decide +kernel
theorem dX6_install_4 : decode cX6_install 4 = .ok (.astore_n 1, 1) := by decide +kernel
theorem dX6_install_5 : decode cX6_install 5 = .ok (.aload_n 1, 1) := by decide +kernel
theorem dX6_install_6 : decode cX6_install 6 = .ok (.invokevirtual 106, 3) := by decide +kernel
theorem dX6_install_9 : decode cX6_install 9 = .ok (.istore_n 2, 1) := by decide +kernel
theorem dX6_install_10 : decode cX6_install 10 = .ok (.iload_n 2, 1) := by decide +kernel
theorem dX6_install_11 : decode cX6_install 11 = .ok (.ifCond .ne 6, 3) := by decide +kernel
theorem dX6_install_14 : decode cX6_install 14 = .ok (.bipush (-2), 2) := by decide +kernel
theorem dX6_install_16 : decode cX6_install 16 = .ok (.ireturn, 1) := by decide +kernel
theorem dX6_install_17 : decode cX6_install 17 = .ok (.aload_n 0, 1) := by decide +kernel
theorem dX6_install_18 : decode cX6_install 18 = .ok (.invokevirtual 142, 3) := by decide +kernel
theorem dX6_install_21 : decode cX6_install 21 = .ok (.aload_n 0, 1) := by decide +kernel
theorem dX6_install_22 : decode cX6_install 22 = .ok (.invokevirtual 64, 3) := by decide +kernel
theorem dX6_install_25 : decode cX6_install 25 = .ok (.aload_n 1, 1) := by decide +kernel
theorem dX6_install_26 : decode cX6_install 26 = .ok (.invokevirtual 71, 3) := by decide +kernel
theorem dX6_install_29 : decode cX6_install 29 = .ok (.invokevirtual 159, 3) := by decide +kernel
theorem dX6_install_32 : decode cX6_install 32 = .ok (.iload_n 2, 1) := by decide +kernel
theorem dX6_install_33 : decode cX6_install 33 = .ok (.ireturn, 1) := by decide +kernel
set_option maxRecDepth 20000 in
theorem ggX6_type_X4_addLetter : GoodIn wsX6_type wsX4_addLetter := goodIn_r _ [6, 7, 8, 16, 17, 18, 19, 20] (by decide +kernel) (by decide +kernel)
set_option maxRecDepth 20000 in
theorem gX6_type_X4_addLetter : GoodIn wsX6_type (wsV RX6 163 RX4 yX4_addLetter wsX4_addLetter) := goodIn_app (goodIn_of _ (by decide +kernel)) ggX6_type_X4_addLetter
theorem dX6_type_0 : decode cX6_type 0 = .ok (.iload_n 1, 1) := by decide +kernel
theorem dX6_type_1 : decode cX6_type 1 = .ok (.bipush 32, 2) := by decide +kernel
theorem dX6_type_3 : decode cX6_type 3 = .ok (.if_icmp .lt 9, 3) := by decide +kernel
theorem dX6_type_6 : decode cX6_type 6 = .ok (.iload_n 1, 1) := by decide +kernel
theorem dX6_type_7 : decode cX6_type 7 = .ok (.bipush 126, 2) := by decide +kernel
theorem dX6_type_9 : decode cX6_type 9 = .ok (.if_icmp .le 5, 3) := by decide +kernel
theorem dX6_type_12 : decode cX6_type 12 = .ok (.iconst (-1), 1) := by decide +kernel
theorem dX6_type_13 : decode cX6_type 13 = .ok (.ireturn, 1) := by decide +kernel
theorem dX6_type_14 : decode cX6_type 14 = .ok (.aload_n 0, 1) := by decide +kernel
theorem dX6_type_15 : decode cX6_type 15 = .ok (.getfield 29, 3) := by decide +kernel
theorem dX6_type_18 : decode cX6_type 18 = .ok (.iload_n 1, 1) := by decide +kernel
theorem dX6_type_19 : decode cX6_type 19 = .ok (.invokevirtual 163, 3) := by decide +kernel
theorem dX6_type_22 : decode cX6_type 22 = .ok (.ireturn, 1) := by decide +kernel
set_option maxRecDepth 20000 in
theorem ggX6_read_X4_parse : GoodIn wsX6_read wsX4_parse := goodIn_r _ [6, 7, 8, 9, 10, 11, 12, 13, 14, 15, 16, 17, 18, 19, 20, 21, 22, 5, 23, 24, 25, 26, 27, 28, 29, 30, 31, 32, 33, 34, 35, 36, 37, 38, 39, 40, 41, 42, 43, 44, 45, 46, 47, 48, 49, 50, 51, 52, 53, 54, 121, 122, 123, 124, 125, 126, 127] (by decide +kernel) (by decide +kernel)
set_option maxRecDepth 20000 in
theorem gX6_read_X4_parse : GoodIn wsX6_read (wsV RX6 166 RX4 yX4_parse wsX4_parse) := goodIn_app (goodIn_of _ (by decide +kernel)) ggX6_read_X4_parse
set_option maxRecDepth 20000 in
theorem ggX6_read_X4_makeEmpty : GoodIn wsX6_read wsX4_makeEmpty := goodIn_r _ [58, 29, 121, 122, 123, 124, 125] (by decide +kernel) (by decide +kernel)
set_option maxRecDepth 20000 in
theorem gX6_read_X4_makeEmpty : GoodIn wsX6_read (wsV RX6 169 RX4 yX4_makeEmpty wsX4_makeEmpty) := goodIn_app (goodIn_of _ (by decide +kernel)) ggX6_read_X4_makeEmpty
set_option maxRecDepth 20000 in
theorem ggX6_read_X6_beginStep : GoodIn wsX6_read wsX6_beginStep := goodIn_r _ [62, 63, 64, 65, 66, 67, 68, 69, 70, 71, 72, 73, 74, 75, 76, 77, 78, 79, 80, 81, 82, 83, 84, 85, 86, 87, 12, 88, 14, 89, 90, 91, 92, 15, 114, 115, 116, 117, 118, 119, 120, 128, 129, 130, 131, 132, 133, 126, 127] (by decide +kernel) (by decide +kernel)
set_option maxRecDepth 20000 in
theorem gX6_read_X6_beginStep : GoodIn wsX6_read (wsV RX6 142 RX6 yX6_beginStep wsX6_beginStep) := goodIn_app (goodIn_of _ (by decide +kernel)) ggX6_read_X6_beginStep
set_option maxRecDepth 20000 in
theorem ggX6_read_X6_table : GoodIn wsX6_read wsX6_table := goodIn_r _ [96, 63, 97, 98, 99, 68, 100, 72, 101, 102, 103, 80, 104, 82, 114, 115, 116, 117, 118, 119, 120, 128, 129, 130, 131, 132, 133] (by decide +kernel) (by decide +kernel)
set_option maxRecDepth 20000 in
theorem gX6_read_X6_table : GoodIn wsX6_read (wsV RX6 51 RX6 yX6_table wsX6_table) := goodIn_app (goodIn_of _ (by decide +kernel)) ggX6_read_X6_table
set_option maxRecDepth 20000 in
theorem ggX6_read_X4_toldTable : GoodIn wsX6_read wsX4_toldTable := goodIn_r _ [108, 7, 121, 122, 123, 124, 125] (by decide +kernel) (by decide +kernel)
set_option maxRecDepth 20000 in
theorem gX6_read_X4_toldTable : GoodIn wsX6_read (wsV RX6 172 RX4 yX4_toldTable wsX4_toldTable) := goodIn_app (goodIn_of _ (by decide +kernel)) ggX6_read_X4_toldTable
set_option maxRecDepth 20000 in
theorem ggX6_read_X3_takeFrom : GoodIn wsX6_read wsX3_takeFrom := goodIn_r _ [88, 14, 89, 90, 91, 92, 15, 126, 127] (by decide +kernel) (by decide +kernel)
set_option maxRecDepth 20000 in
theorem gX6_read_X3_takeFrom : GoodIn wsX6_read (wsV RX6 159 RX3 yX3_takeFrom wsX3_takeFrom) := goodIn_app (goodIn_of _ (by decide +kernel)) ggX6_read_X3_takeFrom
set_option maxRecDepth 20000 in
theorem ggX6_read_X3_howMany : GoodIn wsX6_read wsX3_howMany := goodIn_r _ [113, 15, 126, 127] (by decide +kernel) (by decide +kernel)
set_option maxRecDepth 20000 in
theorem gX6_read_X3_howMany : GoodIn wsX6_read (wsV RX6 102 RX3 yX3_howMany wsX3_howMany) := goodIn_app (goodIn_of _ (by decide +kernel)) ggX6_read_X3_howMany
theorem dX6_read_0 : decode cX6_read 0 = .ok (.aload_n 0, 1) := by decide +kernel
theorem dX6_read_1 : decode cX6_read 1 = .ok (.getfield 29, 3) := by decide +kernel
theorem dX6_read_4 : decode cX6_read 4 = .ok (.invokevirtual 166, 3) := by decide +kernel
theorem dX6_read_7 : decode cX6_read 7 = .ok (.istore_n 1, 1) := by decide +kernel
theorem dX6_read_8 : decode cX6_read 8 = .ok (.aload_n 0, 1) := by decide +kernel
theorem dX6_read_9 : decode cX6_read 9 = .ok (.getfield 29, 3) := by decide +kernel
theorem dX6_read_12 : decode cX6_read 12 = .ok (.invokevirtual 169, 3) := by decide +kernel
theorem dX6_read_15 : decode cX6_read 15 = .ok (.iload_n 1, 1) := by decide +kernel
theorem dX6_read_16 : decode cX6_read 16 = .ok (.bipush (-4), 2) := by decide +kernel
theorem dX6_read_18 : decode cX6_read 18 = .ok (.if_icmp .eq 8, 3) := by decide +kernel
theorem dX6_read_21 : decode cX6_read 21 = .ok (.bipush (-20), 2) := by decide +kernel
theorem dX6_read_23 : decode cX6_read 23 = .ok (.iload_n 1, 1) := by decide +kernel
theorem dX6_read_24 : decode cX6_read 24 = .ok (.isub, 1) := by decide +kernel
theorem dX6_read_25 : decode cX6_read 25 = .ok (.ireturn, 1) := by decide +kernel
theorem dX6_read_26 : decode cX6_read 26 = .ok (.aload_n 0, 1) := by decide +kernel
theorem dX6_read_27 : decode cX6_read 27 = .ok (.invokevirtual 142, 3) := by decide +kernel
theorem dX6_read_30 : decode cX6_read 30 = .ok (.aload_n 0, 1) := by decide +kernel
theorem dX6_read_31 : decode cX6_read 31 = .ok (.invokevirtual 51, 3) := by decide +kernel
theorem dX6_read_34 : decode cX6_read 34 = .ok (.aload_n 0, 1) := by decide +kernel
theorem dX6_read_35 : decode cX6_read 35 = .ok (.getfield 29, 3) := by decide +kernel
theorem dX6_read_38 : decode cX6_read 38 = .ok (.invokevirtual 172, 3) := by decide +kernel
theorem dX6_read_41 : decode cX6_read 41 = .ok (.invokevirtual 159, 3) := by decide +kernel
theorem dX6_read_44 : decode cX6_read 44 = .ok (.aload_n 0, 1) := by decide +kernel
theorem dX6_read_45 : decode cX6_read 45 = .ok (.invokevirtual 51, 3) := by decide +kernel
theorem dX6_read_48 : decode cX6_read 48 = .ok (.invokevirtual 102, 3) := by decide +kernel
theorem dX6_read_51 : decode cX6_read 51 = .ok (.ireturn, 1) := by decide +kernel
set_option maxRecDepth 20000 in
theorem ggX6_drift_X6_beginStep : GoodIn wsX6_drift wsX6_beginStep := goodIn_r _ [5, 6, 7, 8, 9, 10, 11, 12, 13, 14, 15, 16, 17, 18, 19, 20, 21, 22, 23, 24, 25, 26, 27, 28, 29, 30, 31, 32, 33, 34, 35, 36, 37, 38, 88, 89, 90, 91, 92, 93, 94, 95, 96, 97, 98, 99, 100, 101, 102] (by decide +kernel) (by decide +kernel)
set_option maxRecDepth 20000 in
theorem gX6_drift_X6_beginStep : GoodIn wsX6_drift (wsV RX6 142 RX6 yX6_beginStep wsX6_beginStep) := goodIn_app (goodIn_of _ (by decide +kernel)) ggX6_drift_X6_beginStep
set_option maxRecDepth 20000 in
theorem ggX6_drift_X6_takeTurn : GoodIn wsX6_drift wsX6_takeTurn := goodIn_r _ [42, 6, 43, 44, 45, 11, 46, 15, 47, 48, 49, 23, 50, 27, 51, 52, 53, 54, 55, 4, 56, 57, 58, 59, 60, 25, 61, 62, 63, 31, 64, 33, 65, 66, 67, 68, 38, 69, 70, 71, 72, 73, 74, 75, 76, 77, 78, 79, 80, 81, 82, 83, 84, 85, 86, 87, 88, 89, 90, 91, 92, 93, 94, 95, 96, 97, 98, 99, 100, 101, 102] (by decide +kernel) (by decide +kernel)
set_option maxRecDepth 20000 in
theorem gX6_drift_X6_takeTurn : GoodIn wsX6_drift (wsV RX6 175 RX6 yX6_takeTurn wsX6_takeTurn) := goodIn_app (goodIn_of _ (by decide +kernel)) ggX6_drift_X6_takeTurn
set_option maxRecDepth 20000 in
theorem ggX6_drift_X6_table : GoodIn wsX6_drift wsX6_table := goodIn_r _ [56, 6, 43, 44, 45, 11, 46, 15, 57, 58, 59, 23, 60, 25, 88, 89, 90, 91, 92, 93, 94, 95, 96, 97, 98, 99, 100] (by decide +kernel) (by decide +kernel)
set_option maxRecDepth 20000 in
theorem gX6_drift_X6_table : GoodIn wsX6_drift (wsV RX6 51 RX6 yX6_table wsX6_table) := goodIn_app (goodIn_of _ (by decide +kernel)) ggX6_drift_X6_table
set_option maxRecDepth 20000 in
theorem ggX6_drift_X3_howMany : GoodIn wsX6_drift wsX3_howMany := goodIn_r _ [79, 38, 101, 102] (by decide +kernel) (by decide +kernel)
set_option maxRecDepth 20000 in
theorem gX6_drift_X3_howMany : GoodIn wsX6_drift (wsV RX6 102 RX3 yX3_howMany wsX3_howMany) := goodIn_app (goodIn_of _ (by decide +kernel)) ggX6_drift_X3_howMany
theorem dX6_drift_0 : decode cX6_drift 0 = .ok (.iload_n 1, 1) := by decide +kernel
theorem dX6_drift_1 : decode cX6_drift 1 = .ok (.iconst 1, 1) := by decide +kernel
theorem dX6_drift_2 : decode cX6_drift 2 = .ok (.if_icmp .lt 9, 3) := by decide +kernel
theorem dX6_drift_5 : decode cX6_drift 5 = .ok (.iload_n 1, 1) := by decide +kernel
theorem dX6_drift_6 : decode cX6_drift 6 = .ok (.bipush 40, 2) := by decide +kernel
theorem dX6_drift_8 : decode cX6_drift 8 = .ok (.if_icmp .le 5, 3) := by decide +kernel
theorem dX6_drift_11 : decode cX6_drift 11 = .ok (.iconst (-1), 1) := by decide +kernel
theorem dX6_drift_12 : decode cX6_drift 12 = .ok (.ireturn, 1) := by decide +kernel
theorem dX6_drift_13 : decode cX6_drift 13 = .ok (.iconst 0, 1) := by decide +kernel
theorem dX6_drift_14 : decode cX6_drift 14 = .ok (.istore_n 2, 1) := by decide +kernel
theorem dX6_drift_15 : decode cX6_drift 15 = .ok (.iload_n 2, 1) := by decide +kernel
theorem dX6_drift_16 : decode cX6_drift 16 = .ok (.iload_n 1, 1) := by decide +kernel
theorem dX6_drift_17 : decode cX6_drift 17 = .ok (.if_icmp .ge 17, 3) := by decide +kernel
theorem dX6_drift_20 : decode cX6_drift 20 = .ok (.aload_n 0, 1) := by decide +kernel
theorem dX6_drift_21 : decode cX6_drift 21 = .ok (.invokevirtual 142, 3) := by decide +kernel
theorem dX6_drift_24 : decode cX6_drift 24 = .ok (.aload_n 0, 1) := by decide +kernel
theorem dX6_drift_25 : decode cX6_drift 25 = .ok (.invokevirtual 175, 3) := by decide +kernel
theorem dX6_drift_28 : decode cX6_drift 28 = .ok (.iinc 2 1, 3) := by decide +kernel
theorem dX6_drift_31 : decode cX6_drift 31 = .ok (.goto (-16), 3) := by decide +kernel
theorem dX6_drift_34 : decode cX6_drift 34 = .ok (.aload_n 0, 1) := by decide +kernel
theorem dX6_drift_35 : decode cX6_drift 35 = .ok (.invokevirtual 51, 3) := by decide +kernel
theorem dX6_drift_38 : decode cX6_drift 38 = .ok (.invokevirtual 102, 3) := by decide +kernel
theorem dX6_drift_41 : decode cX6_drift 41 = .ok (.ireturn, 1) := by decide +kernel
set_option maxRecDepth 20000 in
theorem ggX6_undo_X0_howManyKnown : GoodIn wsX6_undo wsX0_howManyKnown := goodIn_r _ [7, 8, 41, 42, 43] (by decide +kernel) (by decide +kernel)
set_option maxRecDepth 20000 in
theorem gX6_undo_X0_howManyKnown : GoodIn wsX6_undo (wsV RX6 118 RX0 yX0_howManyKnown wsX0_howManyKnown) := goodIn_app (goodIn_of _ (by decide +kernel)) ggX6_undo_X0_howManyKnown
set_option maxRecDepth 20000 in
theorem ggX6_undo_X0_goBack : GoodIn wsX6_undo wsX0_goBack := goodIn_r _ [12, 8, 13, 14, 15, 16, 17, 18, 19, 20, 21, 22, 23, 24, 25, 26, 27, 28, 29, 30, 31, 32, 33, 41, 42, 43, 44, 45, 46, 47, 48] (by decide +kernel) (by decide +kernel)
set_option maxRecDepth 20000 in
theorem gX6_undo_X0_goBack : GoodIn wsX6_undo (wsV RX6 178 RX0 yX0_goBack wsX0_goBack) := goodIn_app (goodIn_of _ (by decide +kernel)) ggX6_undo_X0_goBack
theorem dX6_undo_0 : decode cX6_undo 0 = .ok (.aload_n 0, 1) := by decide +kernel
theorem dX6_undo_1 : decode cX6_undo 1 = .ok (.getfield 10, 3) := by decide +kernel
theorem dX6_undo_4 : decode cX6_undo 4 = .ok (.invokevirtual 118, 3) := by decide +kernel
theorem dX6_undo_7 : decode cX6_undo 7 = .ok (.ifCond .ne 6, 3) := by decide +kernel
theorem dX6_undo_10 : decode cX6_undo 10 = .ok (.bipush (-4), 2) := by decide +kernel
theorem dX6_undo_12 : decode cX6_undo 12 = .ok (.ireturn, 1) := by decide +kernel
theorem dX6_undo_13 : decode cX6_undo 13 = .ok (.aload_n 0, 1) := by decide +kernel
theorem dX6_undo_14 : decode cX6_undo 14 = .ok (.iconst 1, 1) := by decide +kernel
theorem dX6_undo_15 : decode cX6_undo 15 = .ok (.putfield 43, 3) := by decide +kernel
theorem dX6_undo_18 : decode cX6_undo 18 = .ok (.aload_n 0, 1) := by decide +kernel
theorem dX6_undo_19 : decode cX6_undo 19 = .ok (.getfield 10, 3) := by decide +kernel
theorem dX6_undo_22 : decode cX6_undo 22 = .ok (.invokevirtual 178, 3) := by decide +kernel
theorem dX6_undo_25 : decode cX6_undo 25 = .ok (.aload_n 0, 1) := by decide +kernel
theorem dX6_undo_26 : decode cX6_undo 26 = .ok (.getfield 10, 3) := by decide +kernel
theorem dX6_undo_29 : decode cX6_undo 29 = .ok (.invokevirtual 118, 3) := by decide +kernel
theorem dX6_undo_32 : decode cX6_undo 32 = .ok (.ireturn, 1) := by decide +kernel
set_option maxRecDepth 20000 in
theorem ggX6_seed_X0_present : GoodIn wsX6_seed wsX0_present := goodIn_r _ [6, 7, 25, 26, 27] (by decide +kernel) (by decide +kernel)
set_option maxRecDepth 20000 in
theorem gX6_seed_X0_present : GoodIn wsX6_seed (wsV RX6 181 RX0 yX0_present wsX0_present) := goodIn_app (goodIn_of _ (by decide +kernel)) ggX6_seed_X0_present
set_option maxRecDepth 20000 in
theorem ggX6_seed_X1_drawNow : GoodIn wsX6_seed wsX1_drawNow := goodIn_r _ [12, 13, 28, 29, 30] (by decide +kernel) (by decide +kernel)
set_option maxRecDepth 20000 in
theorem gX6_seed_X1_drawNow : GoodIn wsX6_seed (wsV RX6 185 RX1 yX1_drawNow wsX1_drawNow) := goodIn_app (goodIn_of _ (by decide +kernel)) ggX6_seed_X1_drawNow
set_option maxRecDepth 20000 in
theorem ggX6_seed_X1_setDraw : GoodIn wsX6_seed wsX1_setDraw := goodIn_r _ [17, 13, 28, 29, 30] (by decide +kernel) (by decide +kernel)
set_option maxRecDepth 20000 in
theorem gX6_seed_X1_setDraw : GoodIn wsX6_seed (wsV RX6 190 RX1 yX1_setDraw wsX1_setDraw) := goodIn_app (goodIn_of _ (by decide +kernel)) ggX6_seed_X1_setDraw
theorem dX6_seed_0 : decode cX6_seed 0 = .ok (.iload_n 1, 1) := by decide +kernel
theorem dX6_seed_1 : decode cX6_seed 1 = .ok (.ifCond .ge 5, 3) := by decide +kernel
theorem dX6_seed_4 : decode cX6_seed 4 = .ok (.iconst (-1), 1) := by decide +kernel
theorem dX6_seed_5 : decode cX6_seed 5 = .ok (.ireturn, 1) := by decide +kernel
theorem dX6_seed_6 : decode cX6_seed 6 = .ok (.aload_n 0, 1) := by decide +kernel
theorem dX6_seed_7 : decode cX6_seed 7 = .ok (.getfield 10, 3) := by decide +kernel
theorem dX6_seed_10 : decode cX6_seed 10 = .ok (.invokevirtual 181, 3) := by decide +kernel
theorem dX6_seed_13 : decode cX6_seed 13 = .ok (.invokevirtual 185, 3) := by decide +kernel
theorem dX6_seed_16 : decode cX6_seed 16 = .ok (.istore_n 2, 1) := by decide +kernel
theorem dX6_seed_17 : decode cX6_seed 17 = .ok (.aload_n 0, 1) := by decide +kernel
theorem dX6_seed_18 : decode cX6_seed 18 = .ok (.getfield 10, 3) := by decide +kernel
theorem dX6_seed_21 : decode cX6_seed 21 = .ok (.invokevirtual 181, 3) := by decide +kernel
theorem dX6_seed_24 : decode cX6_seed 24 = .ok (.iload_n 1, 1) := by decide +kernel
theorem dX6_seed_25 : decode cX6_seed 25 = .ok (.invokevirtual 190, 3) := by decide +kernel
theorem dX6_seed_28 : decode cX6_seed 28 = .ok (.iload_n 2, 1) := by decide +kernel
theorem dX6_seed_29 : decode cX6_seed 29 = .ok (.ireturn, 1) := by decide +kernel
set_option maxRecDepth 20000 in
theorem ggX6_image_X0_takeAllFrom : GoodIn wsX6_image wsX0_takeAllFrom := goodIn_r _ [8, 9, 10, 11, 12, 13, 14, 15, 16, 17, 18, 19, 20, 21, 22, 23, 24, 25, 26, 27, 28, 29, 30, 38, 39, 40, 41, 42, 43, 44, 45] (by decide +kernel) (by decide +kernel)
set_option maxRecDepth 20000 in
theorem gX6_image_X0_takeAllFrom : GoodIn wsX6_image (wsV RX6 193 RX0 yX0_takeAllFrom wsX0_takeAllFrom) := goodIn_app (goodIn_of _ (by decide +kernel)) ggX6_image_X0_takeAllFrom
theorem dX6_image_0 : decode cX6_image 0 = .ok (.aload_n 0, 1) := by decide +kernel
theorem dX6_image_1 : decode cX6_image 1 = .ok (.getfield 16, 3) := by decide +kernel
theorem dX6_image_4 : decode cX6_image 4 = .ok (.aload_n 0, 1) := by decide +kernel
theorem dX6_image_5 : decode cX6_image 5 = .ok (.getfield 10, 3) := by decide +kernel
theorem dX6_image_8 : decode cX6_image 8 = .ok (.invokevirtual 193, 3) := by decide +kernel
theorem dX6_image_11 : decode cX6_image 11 = .ok (.aload_n 0, 1) := by decide +kernel
theorem dX6_image_12 : decode cX6_image 12 = .ok (.iconst 1, 1) := by decide +kernel
theorem dX6_image_13 : decode cX6_image 13 = .ok (.putfield 39, 3) := by decide +kernel
theorem dX6_image_16 : decode cX6_image 16 = .ok (.iconst 1, 1) := by decide +kernel
theorem dX6_image_17 : decode cX6_image 17 = .ok (.ireturn, 1) := by decide +kernel
set_option maxRecDepth 20000 in
theorem ggX6_restore_X0_takeAllFrom : GoodIn wsX6_restore wsX0_takeAllFrom := goodIn_r _ [9, 10, 11, 12, 13, 14, 15, 16, 17, 18, 19, 20, 21, 22, 23, 24, 25, 26, 27, 28, 29, 30, 31, 39, 40, 41, 42, 43, 44, 45, 46] (by decide +kernel) (by decide +kernel)
set_option maxRecDepth 20000 in
theorem gX6_restore_X0_takeAllFrom : GoodIn wsX6_restore (wsV RX6 193 RX0 yX0_takeAllFrom wsX0_takeAllFrom) := goodIn_app (goodIn_of _ (by decide +kernel)) ggX6_restore_X0_takeAllFrom
theorem dX6_restore_0 : decode cX6_restore 0 = .ok (.aload_n 0, 1) := by decide +kernel
theorem dX6_restore_1 : decode cX6_restore 1 = .ok (.getfield 39, 3) := by decide +kernel
theorem dX6_restore_4 : decode cX6_restore 4 = .ok (.ifCond .ne 6, 3) := by decide +kernel
theorem dX6_restore_7 : decode cX6_restore 7 = .ok (.bipush (-4), 2) := by decide +kernel
theorem dX6_restore_9 : decode cX6_restore 9 = .ok (.ireturn, 1) := by decide +kernel
theorem dX6_restore_10 : decode cX6_restore 10 = .ok (.aload_n 0, 1) := by decide +kernel
theorem dX6_restore_11 : decode cX6_restore 11 = .ok (.iconst 1, 1) := by decide +kernel
theorem dX6_restore_12 : decode cX6_restore 12 = .ok (.putfield 43, 3) := by decide +kernel
theorem dX6_restore_15 : decode cX6_restore 15 = .ok (.aload_n 0, 1) := by decide +kernel
theorem dX6_restore_16 : decode cX6_restore 16 = .ok (.getfield 10, 3) := by decide +kernel
theorem dX6_restore_19 : decode cX6_restore 19 = .ok (.aload_n 0, 1) := by decide +kernel
theorem dX6_restore_20 : decode cX6_restore 20 = .ok (.getfield 16, 3) := by decide +kernel
theorem dX6_restore_23 : decode cX6_restore 23 = .ok (.invokevirtual 193, 3) := by decide +kernel
theorem dX6_restore_26 : decode cX6_restore 26 = .ok (.iconst 1, 1) := by decide +kernel
theorem dX6_restore_27 : decode cX6_restore 27 = .ok (.ireturn, 1) := by decide +kernel
set_option maxRecDepth 20000 in
theorem ggX6_lengths_X6_isSheet : GoodIn wsX6_lengths wsX6_isSheet := goodIn_r _ [5] (by decide +kernel) (by decide +kernel)
set_option maxRecDepth 20000 in
theorem gX6_lengths_X6_isSheet : GoodIn wsX6_lengths (va_wsS RX6 197 yX6_isSheet wsX6_isSheet) := goodIn_app (goodIn_of _ (by decide +kernel)) ggX6_lengths_X6_isSheet
set_option maxRecDepth 20000 in
theorem ggX6_lengths_X6_isLane : GoodIn wsX6_lengths wsX6_isLane := goodIn_r _ [8] (by decide +kernel) (by decide +kernel)
set_option maxRecDepth 20000 in
theorem gX6_lengths_X6_isLane : GoodIn wsX6_lengths (va_wsS RX6 200 yX6_isLane wsX6_isLane) := goodIn_app (goodIn_of _ (by decide +kernel)) ggX6_lengths_X6_isLane
set_option maxRecDepth 20000 in
theorem ggX6_lengths_X2_refusal : GoodIn wsX6_lengths wsX2_refusal := goodIn_r _ [13, 14, 15, 16, 17, 12, 18, 19, 20, 21, 22, 23, 42, 43, 44] (by decide +kernel) (by decide +kernel)
set_option maxRecDepth 20000 in
theorem gX6_lengths_X2_refusal : GoodIn wsX6_lengths (wsV RX6 203 RX2 yX2_refusal wsX2_refusal) := goodIn_app (goodIn_of _ (by decide +kernel)) ggX6_lengths_X2_refusal
set_option maxRecDepth 20000 in
theorem ggX6_lengths_X2_holdsPairs : GoodIn wsX6_lengths wsX2_holdsPairs := goodIn_r _ [27, 28, 29, 30, 19, 20, 21, 12, 22, 23, 42, 43, 44] (by decide +kernel) (by decide +kernel)
set_option maxRecDepth 20000 in
theorem gX6_lengths_X2_holdsPairs : GoodIn wsX6_lengths (wsV RX6 207 RX2 yX2_holdsPairs wsX2_holdsPairs) := goodIn_app (goodIn_of _ (by decide +kernel)) ggX6_lengths_X2_holdsPairs
set_option maxRecDepth 20000 in
theorem ggX6_lengths_X2_isToldBy : GoodIn wsX6_lengths wsX2_isToldBy := goodIn_r _ [34, 28, 19, 20, 21, 12, 22, 23, 42, 43, 44] (by decide +kernel) (by decide +kernel)
set_option maxRecDepth 20000 in
theorem gX6_lengths_X2_isToldBy : GoodIn wsX6_lengths (wsV RX6 211 RX2 yX2_isToldBy wsX2_isToldBy) := goodIn_app (goodIn_of _ (by decide +kernel)) ggX6_lengths_X2_isToldBy
theorem dX6_lengths_0 : decode cX6_lengths 0 = .ok (.iload_n 1, 1) := by decide +kernel
theorem dX6_lengths_1 : decode cX6_lengths 1 = .ok (.invokestatic 197, 3) := by decide +kernel
theorem dX6_lengths_4 : decode cX6_lengths 4 = .ok (.ifCond .eq 23, 3) := by decide +kernel
theorem dX6_lengths_7 : decode cX6_lengths 7 = .ok (.iload_n 2, 1) := by decide +kernel
theorem dX6_lengths_8 : decode cX6_lengths 8 = .ok (.invokestatic 200, 3) := by decide +kernel
theorem dX6_lengths_11 : decode cX6_lengths 11 = .ok (.ifCond .eq 16, 3) := by decide +kernel
theorem dX6_lengths_14 : decode cX6_lengths 14 = .ok (.iload 4, 2) := by decide +kernel
theorem dX6_lengths_16 : decode cX6_lengths 16 = .ok (.iconst 1, 1) := by decide +kernel
theorem dX6_lengths_17 : decode cX6_lengths 17 = .ok (.if_icmp .lt 10, 3) := by decide +kernel
theorem dX6_lengths_20 : decode cX6_lengths 20 = .ok (.iload 4, 2) := by decide +kernel
theorem dX6_lengths_22 : decode cX6_lengths 22 = .ok (.bipush 12, 2) := by decide +kernel
theorem dX6_lengths_24 : decode cX6_lengths 24 = .ok (.if_icmp .le 5, 3) := by decide +kernel
theorem dX6_lengths_27 : decode cX6_lengths 27 = .ok (.iconst (-1), 1) := by decide +kernel
theorem dX6_lengths_28 : decode cX6_lengths 28 = .ok (.ireturn, 1) := by decide +kernel
theorem dX6_lengths_29 : decode cX6_lengths 29 = .ok (.aload_n 0, 1) := by decide +kernel
theorem dX6_lengths_30 : decode cX6_lengths 30 = .ok (.getfield 35, 3) := by decide +kernel
theorem dX6_lengths_33 : decode cX6_lengths 33 = .ok (.iload_n 1, 1) := by decide +kernel
theorem dX6_lengths_34 : decode cX6_lengths 34 = .ok (.aaload, 1) := by decide +kernel
theorem dX6_lengths_35 : decode cX6_lengths 35 = .ok (.iload_n 2, 1) := by decide +kernel
theorem dX6_lengths_36 : decode cX6_lengths 36 = .ok (.iload_n 3, 1) := by decide +kernel
theorem dX6_lengths_37 : decode cX6_lengths 37 = .ok (.iconst 2, 1) := by decide +kernel
theorem dX6_lengths_38 : decode cX6_lengths 38 = .ok (.iload 4, 2) := by decide +kernel
theorem dX6_lengths_40 : decode cX6_lengths 40 = .ok (.imul, 1) := by decide +kernel
theorem dX6_lengths_41 : decode cX6_lengths 41 = .ok (.invokevirtual 203, 3) := by decide +kernel
theorem dX6_lengths_44 : decode cX6_lengths 44 = .ok (.istore 5, 2) := by decide +kernel
theorem dX6_lengths_46 : decode cX6_lengths 46 = .ok (.iload 5, 2) := by decide +kernel
theorem dX6_lengths_48 : decode cX6_lengths 48 = .ok (.ifCond .eq 6, 3) := by decide +kernel
theorem dX6_lengths_51 : decode cX6_lengths 51 = .ok (.iload 5, 2) := by decide +kernel
theorem dX6_lengths_53 : decode cX6_lengths 53 = .ok (.ireturn, 1) := by decide +kernel
theorem dX6_lengths_54 : decode cX6_lengths 54 = .ok (.aload_n 0, 1) := by decide +kernel
theorem dX6_lengths_55 : decode cX6_lengths 55 = .ok (.getfield 35, 3) := by decide +kernel
theorem dX6_lengths_58 : decode cX6_lengths 58 = .ok (.iload_n 1, 1) := by decide +kernel
theorem dX6_lengths_59 : decode cX6_lengths 59 = .ok (.aaload, 1) := by decide +kernel
theorem dX6_lengths_60 : decode cX6_lengths 60 = .ok (.iload_n 3, 1) := by decide +kernel
theorem dX6_lengths_61 : decode cX6_lengths 61 = .ok (.iload 4, 2) := by decide +kernel
theorem dX6_lengths_63 : decode cX6_lengths 63 = .ok (.invokevirtual 207, 3) := by decide +kernel
theorem dX6_lengths_66 : decode cX6_lengths 66 = .ok (.ifCond .ne 6, 3) := by decide +kernel
theorem dX6_lengths_69 : decode cX6_lengths 69 = .ok (.bipush (-2), 2) := by decide +kernel
theorem dX6_lengths_71 : decode cX6_lengths 71 = .ok (.ireturn, 1) := by decide +kernel
theorem dX6_lengths_72 : decode cX6_lengths 72 = .ok (.iconst 0, 1) := by decide +kernel
theorem dX6_lengths_73 : decode cX6_lengths 73 = .ok (.istore 6, 2) := by decide +kernel
theorem dX6_lengths_75 : decode cX6_lengths 75 = .ok (.iconst 0, 1) := by decide +kernel
theorem dX6_lengths_76 : decode cX6_lengths 76 = .ok (.istore 7, 2) := by decide +kernel
theorem dX6_lengths_78 : decode cX6_lengths 78 = .ok (.iload 7, 2) := by decide +kernel
theorem dX6_lengths_80 : decode cX6_lengths 80 = .ok (.bipush 8, 2) := by decide +kernel
theorem dX6_lengths_82 : decode cX6_lengths 82 = .ok (.if_icmp .gt 35, 3) := by decide +kernel
theorem dX6_lengths_85 : decode cX6_lengths 85 = .ok (.aload_n 0, 1) := by decide +kernel
theorem dX6_lengths_86 : decode cX6_lengths 86 = .ok (.getfield 35, 3) := by decide +kernel
theorem dX6_lengths_89 : decode cX6_lengths 89 = .ok (.iload_n 1, 1) := by decide +kernel
theorem dX6_lengths_90 : decode cX6_lengths 90 = .ok (.aaload, 1) := by decide +kernel
theorem dX6_lengths_91 : decode cX6_lengths 91 = .ok (.iload 7, 2) := by decide +kernel
theorem dX6_lengths_93 : decode cX6_lengths 93 = .ok (.iload_n 3, 1) := by decide +kernel
theorem dX6_lengths_94 : decode cX6_lengths 94 = .ok (.iload 4, 2) := by decide +kernel
theorem dX6_lengths_96 : decode cX6_lengths 96 = .ok (.invokevirtual 211, 3) := by decide +kernel
theorem dX6_lengths_99 : decode cX6_lengths 99 = .ok (.ifCond .eq 12, 3) := by decide +kernel
theorem dX6_lengths_102 : decode cX6_lengths 102 = .ok (.iload 6, 2) := by decide +kernel
theorem dX6_lengths_104 : decode cX6_lengths 104 = .ok (.iconst 1, 1) := by decide +kernel
theorem dX6_lengths_105 : decode cX6_lengths 105 = .ok (.iload 7, 2) := by decide +kernel
theorem dX6_lengths_107 : decode cX6_lengths 107 = .ok (.ishl, 1) := by decide +kernel
theorem dX6_lengths_108 : decode cX6_lengths 108 = .ok (.ior, 1) := by decide +kernel
theorem dX6_lengths_109 : decode cX6_lengths 109 = .ok (.istore 6, 2) := by decide +kernel
theorem dX6_lengths_111 : decode cX6_lengths 111 = .ok (.iinc 7 1, 3) := by decide +kernel
theorem dX6_lengths_114 : decode cX6_lengths 114 = .ok (.goto (-36), 3) := by decide +kernel
theorem dX6_lengths_117 : decode cX6_lengths 117 = .ok (.iload 6, 2) := by decide +kernel
theorem dX6_lengths_119 : decode cX6_lengths 119 = .ok (.ireturn, 1) := by decide +kernel
set_option maxRecDepth 20000 in
theorem ggX6_film_X6_isSheet : GoodIn wsX6_film wsX6_isSheet := goodIn_r _ [5] (by decide +kernel) (by decide +kernel)
set_option maxRecDepth 20000 in
theorem gX6_film_X6_isSheet : GoodIn wsX6_film (va_wsS RX6 197 yX6_isSheet wsX6_isSheet) := goodIn_app (goodIn_of _ (by decide +kernel)) ggX6_film_X6_isSheet
set_option maxRecDepth 20000 in
theorem ggX6_film_X6_isLane : GoodIn wsX6_film wsX6_isLane := goodIn_r _ [8] (by decide +kernel) (by decide +kernel)
set_option maxRecDepth 20000 in
theorem gX6_film_X6_isLane : GoodIn wsX6_film (va_wsS RX6 200 yX6_isLane wsX6_isLane) := goodIn_app (goodIn_of _ (by decide +kernel)) ggX6_film_X6_isLane
set_option maxRecDepth 20000 in
theorem ggX6_film_X6_freshView : GoodIn wsX6_film wsX6_freshView := goodIn_r _ [12, 13, 14, 15, 16, 17, 4, 18, 19, 20, 21, 22, 23, 24, 25, 26, 27, 28, 29, 30, 31, 32, 33, 34, 35, 36, 37, 38, 39, 40, 41, 42, 43, 44, 45, 46, 47, 48, 49, 50, 51, 52, 53, 54, 55, 56, 57, 58, 59, 60, 61, 62, 63, 64, 65, 66, 67, 68, 69, 70, 71, 72, 73, 74, 75, 76, 77, 78, 79, 80, 81, 82, 83, 84, 85, 86, 87, 88, 89, 90, 91, 92, 93, 94, 95, 96, 97, 98, 99, 100, 101, 102, 103, 104, 105, 106, 107, 108, 109, 110, 111, 112, 113, 114, 115, 153, 154, 155, 156, 157, 158, 159, 160, 161, 162, 163, 164, 165, 166, 167, 168, 169, 170, 171, 172, 173, 174] (by decide +kernel) (by decide +kernel)
set_option maxRecDepth 20000 in
theorem gX6_film_X6_freshView : GoodIn wsX6_film (wsV RX6 67 RX6 yX6_freshView wsX6_freshView) := goodIn_app (goodIn_of _ (by decide +kernel)) ggX6_film_X6_freshView
set_option maxRecDepth 20000 in
theorem ggX6_film_X5_leastTable : GoodIn wsX6_film wsX5_leastTable := goodIn_r _ [119, 81, 166, 167, 168, 169, 170, 171, 172] (by decide +kernel) (by decide +kernel)
set_option maxRecDepth 20000 in
theorem gX6_film_X5_leastTable : GoodIn wsX6_film (wsV RX6 71 RX5 yX5_leastTable wsX5_leastTable) := goodIn_app (goodIn_of _ (by decide +kernel)) ggX6_film_X5_leastTable
set_option maxRecDepth 20000 in
theorem ggX6_film_X3_howMany : GoodIn wsX6_film wsX3_howMany := goodIn_r _ [123, 59, 173, 174] (by decide +kernel) (by decide +kernel)
set_option maxRecDepth 20000 in
theorem gX6_film_X3_howMany : GoodIn wsX6_film (wsV RX6 102 RX3 yX3_howMany wsX3_howMany) := goodIn_app (goodIn_of _ (by decide +kernel)) ggX6_film_X3_howMany
set_option maxRecDepth 20000 in
theorem ggX6_film_X2_refusal : GoodIn wsX6_film wsX2_refusal := goodIn_r _ [128, 129, 130, 131, 132, 127, 133, 134, 135, 136, 137, 138, 175, 176, 177] (by decide +kernel) (by decide +kernel)
set_option maxRecDepth 20000 in
theorem gX6_film_X2_refusal : GoodIn wsX6_film (wsV RX6 203 RX2 yX2_refusal wsX2_refusal) := goodIn_app (goodIn_of _ (by decide +kernel)) ggX6_film_X2_refusal
set_option maxRecDepth 20000 in
theorem ggX6_film_X3_numberOf : GoodIn wsX6_film wsX3_numberOf := goodIn_r _ [142, 109, 68, 69, 52, 70, 54, 173, 174] (by decide +kernel) (by decide +kernel)
set_option maxRecDepth 20000 in
theorem gX6_film_X3_numberOf : GoodIn wsX6_film (wsV RX6 99 RX3 yX3_numberOf wsX3_numberOf) := goodIn_app (goodIn_of _ (by decide +kernel)) ggX6_film_X3_numberOf
set_option maxRecDepth 20000 in
theorem ggX6_film_X2_setItem : GoodIn wsX6_film wsX2_setItem := goodIn_r _ [146, 147, 134, 135, 136, 127, 137, 138, 148, 149, 150, 151, 129, 175, 176, 177] (by decide +kernel) (by decide +kernel)
set_option maxRecDepth 20000 in
theorem gX6_film_X2_setItem : GoodIn wsX6_film (wsV RX6 215 RX2 yX2_setItem wsX2_setItem) := goodIn_app (goodIn_of _ (by decide +kernel)) ggX6_film_X2_setItem
set_option maxRecDepth 20000 in
theorem ggX6_film_X3_hopAt : GoodIn wsX6_film wsX3_hopAt := goodIn_r _ [70, 54, 173, 174] (by decide +kernel) (by decide +kernel)
set_option maxRecDepth 20000 in
theorem gX6_film_X3_hopAt : GoodIn wsX6_film (wsV RX6 77 RX3 yX3_hopAt wsX3_hopAt) := goodIn_app (goodIn_of _ (by decide +kernel)) ggX6_film_X3_hopAt
theorem dX6_film_0 : decode cX6_film 0 = .ok (.iload_n 1, 1) := by decide +kernel
theorem dX6_film_1 : decode cX6_film 1 = .ok (.ifCond .lt 28, 3) := by decide +kernel
theorem dX6_film_4 : decode cX6_film 4 = .ok (.iload_n 2, 1) := by decide +kernel
theorem dX6_film_5 : decode cX6_film 5 = .ok (.ifCond .lt 24, 3) := by decide +kernel
theorem dX6_film_8 : decode cX6_film 8 = .ok (.iload_n 2, 1) := by decide +kernel
theorem dX6_film_9 : decode cX6_film 9 = .ok (.bipush 12, 2) := by decide +kernel
theorem dX6_film_11 : decode cX6_film 11 = .ok (.if_icmp .gt 18, 3) := by decide +kernel
theorem dX6_film_14 : decode cX6_film 14 = .ok (.iload_n 3, 1) := by decide +kernel
theorem dX6_film_15 : decode cX6_film 15 = .ok (.invokestatic 197, 3) := by decide +kernel
theorem dX6_film_18 : decode cX6_film 18 = .ok (.ifCond .eq 11, 3) := by decide +kernel
theorem dX6_film_21 : decode cX6_film 21 = .ok (.iload 4, 2) := by decide +kernel
theorem dX6_film_23 : decode cX6_film 23 = .ok (.invokestatic 200, 3) := by decide +kernel
theorem dX6_film_26 : decode cX6_film 26 = .ok (.ifCond .ne 5, 3) := by decide +kernel
theorem dX6_film_29 : decode cX6_film 29 = .ok (.iconst (-1), 1) := by decide +kernel
theorem dX6_film_30 : decode cX6_film 30 = .ok (.ireturn, 1) := by decide +kernel
theorem dX6_film_31 : decode cX6_film 31 = .ok (.aload_n 0, 1) := by decide +kernel
theorem dX6_film_32 : decode cX6_film 32 = .ok (.invokevirtual 67, 3) := by decide +kernel
theorem dX6_film_35 : decode cX6_film 35 = .ok (.invokevirtual 71, 3) := by decide +kernel
theorem dX6_film_38 : decode cX6_film 38 = .ok (.astore 6, 2) := by decide +kernel
theorem dX6_film_40 : decode cX6_film 40 = .ok (.iload_n 1, 1) := by decide +kernel
theorem dX6_film_41 : decode cX6_film 41 = .ok (.aload 6, 2) := by decide +kernel
theorem dX6_film_43 : decode cX6_film 43 = .ok (.invokevirtual 102, 3) := by decide +kernel
theorem dX6_film_46 : decode cX6_film 46 = .ok (.iload_n 2, 1) := by decide +kernel
theorem dX6_film_47 : decode cX6_film 47 = .ok (.isub, 1) := by decide +kernel
theorem dX6_film_48 : decode cX6_film 48 = .ok (.if_icmp .le 6, 3) := by decide +kernel
theorem dX6_film_51 : decode cX6_film 51 = .ok (.bipush (-2), 2) := by decide +kernel
theorem dX6_film_53 : decode cX6_film 53 = .ok (.ireturn, 1) := by decide +kernel
theorem dX6_film_54 : decode cX6_film 54 = .ok (.aload_n 0, 1) := by decide +kernel
theorem dX6_film_55 : decode cX6_film 55 = .ok (.getfield 35, 3) := by decide +kernel
theorem dX6_film_58 : decode cX6_film 58 = .ok (.iload_n 3, 1) := by decide +kernel
theorem dX6_film_59 : decode cX6_film 59 = .ok (.aaload, 1) := by decide +kernel
theorem dX6_film_60 : decode cX6_film 60 = .ok (.iload 4, 2) := by decide +kernel
theorem dX6_film_62 : decode cX6_film 62 = .ok (.iload 5, 2) := by decide +kernel
theorem dX6_film_64 : decode cX6_film 64 = .ok (.iconst 2, 1) := by decide +kernel
theorem dX6_film_65 : decode cX6_film 65 = .ok (.iload_n 2, 1) := by decide +kernel
theorem dX6_film_66 : decode cX6_film 66 = .ok (.imul, 1) := by decide +kernel
theorem dX6_film_67 : decode cX6_film 67 = .ok (.invokevirtual 203, 3) := by decide +kernel
theorem dX6_film_70 : decode cX6_film 70 = .ok (.istore 7, 2) := by decide +kernel
theorem dX6_film_72 : decode cX6_film 72 = .ok (.iload 7, 2) := by decide +kernel
theorem dX6_film_74 : decode cX6_film 74 = .ok (.ifCond .eq 6, 3) := by decide +kernel
theorem dX6_film_77 : decode cX6_film 77 = .ok (.iload 7, 2) := by decide +kernel
theorem dX6_film_79 : decode cX6_film 79 = .ok (.ireturn, 1) := by decide +kernel
theorem dX6_film_80 : decode cX6_film 80 = .ok (.iconst 0, 1) := by decide +kernel
theorem dX6_film_81 : decode cX6_film 81 = .ok (.istore 8, 2) := by decide +kernel
theorem dX6_film_83 : decode cX6_film 83 = .ok (.iload 8, 2) := by decide +kernel
theorem dX6_film_85 : decode cX6_film 85 = .ok (.iload_n 2, 1) := by decide +kernel
theorem dX6_film_86 : decode cX6_film 86 = .ok (.if_icmp .ge 65, 3) := by decide +kernel
theorem dX6_film_89 : decode cX6_film 89 = .ok (.aload 6, 2) := by decide +kernel
theorem dX6_film_91 : decode cX6_film 91 = .ok (.iload_n 1, 1) := by decide +kernel
theorem dX6_film_92 : decode cX6_film 92 = .ok (.iload 8, 2) := by decide +kernel
theorem dX6_film_94 : decode cX6_film 94 = .ok (.iadd, 1) := by decide +kernel
theorem dX6_film_95 : decode cX6_film 95 = .ok (.invokevirtual 99, 3) := by decide +kernel
theorem dX6_film_98 : decode cX6_film 98 = .ok (.istore 9, 2) := by decide +kernel
theorem dX6_film_100 : decode cX6_film 100 = .ok (.aload_n 0, 1) := by decide +kernel
theorem dX6_film_101 : decode cX6_film 101 = .ok (.getfield 35, 3) := by decide +kernel
theorem dX6_film_104 : decode cX6_film 104 = .ok (.iload_n 3, 1) := by decide +kernel
theorem dX6_film_105 : decode cX6_film 105 = .ok (.aaload, 1) := by decide +kernel
theorem dX6_film_106 : decode cX6_film 106 = .ok (.iload 5, 2) := by decide +kernel
theorem dX6_film_108 : decode cX6_film 108 = .ok (.iconst 2, 1) := by decide +kernel
theorem dX6_film_109 : decode cX6_film 109 = .ok (.iload 8, 2) := by decide +kernel
theorem dX6_film_111 : decode cX6_film 111 = .ok (.imul, 1) := by decide +kernel
theorem dX6_film_112 : decode cX6_film 112 = .ok (.iadd, 1) := by decide +kernel
theorem dX6_film_113 : decode cX6_film 113 = .ok (.iload 9, 2) := by decide +kernel
theorem dX6_film_115 : decode cX6_film 115 = .ok (.i2l, 1) := by decide +kernel
theorem dX6_film_116 : decode cX6_film 116 = .ok (.invokevirtual 215, 3) := by decide +kernel
theorem dX6_film_119 : decode cX6_film 119 = .ok (.aload_n 0, 1) := by decide +kernel
theorem dX6_film_120 : decode cX6_film 120 = .ok (.getfield 35, 3) := by decide +kernel
theorem dX6_film_123 : decode cX6_film 123 = .ok (.iload_n 3, 1) := by decide +kernel
theorem dX6_film_124 : decode cX6_film 124 = .ok (.aaload, 1) := by decide +kernel
theorem dX6_film_125 : decode cX6_film 125 = .ok (.iload 5, 2) := by decide +kernel
theorem dX6_film_127 : decode cX6_film 127 = .ok (.iconst 2, 1) := by decide +kernel
theorem dX6_film_128 : decode cX6_film 128 = .ok (.iload 8, 2) := by decide +kernel
theorem dX6_film_130 : decode cX6_film 130 = .ok (.imul, 1) := by decide +kernel
theorem dX6_film_131 : decode cX6_film 131 = .ok (.iadd, 1) := by decide +kernel
theorem dX6_film_132 : decode cX6_film 132 = .ok (.iconst 1, 1) := by decide +kernel
theorem dX6_film_133 : decode cX6_film 133 = .ok (.iadd, 1) := by decide +kernel
theorem dX6_film_134 : decode cX6_film 134 = .ok (.aload 6, 2) := by decide +kernel
theorem dX6_film_136 : decode cX6_film 136 = .ok (.iload 9, 2) := by decide +kernel
theorem dX6_film_138 : decode cX6_film 138 = .ok (.invokevirtual 77, 3) := by decide +kernel
theorem dX6_film_141 : decode cX6_film 141 = .ok (.i2l, 1) := by decide +kernel
theorem dX6_film_142 : decode cX6_film 142 = .ok (.invokevirtual 215, 3) := by decide +kernel
theorem dX6_film_145 : decode cX6_film 145 = .ok (.iinc 8 1, 3) := by decide +kernel
theorem dX6_film_148 : decode cX6_film 148 = .ok (.goto (-65), 3) := by decide +kernel
theorem dX6_film_151 : decode cX6_film 151 = .ok (.iconst 2, 1) := by decide +kernel
theorem dX6_film_152 : decode cX6_film 152 = .ok (.iload_n 2, 1) := by decide +kernel
theorem dX6_film_153 : decode cX6_film 153 = .ok (.imul, 1) := by decide +kernel
theorem dX6_film_154 : decode cX6_film 154 = .ok (.ireturn, 1) := by decide +kernel
set_option maxRecDepth 20000 in
theorem ggX6_sheet_X6_isSheet : GoodIn wsX6_sheet wsX6_isSheet := goodIn_r _ [5] (by decide +kernel) (by decide +kernel)
set_option maxRecDepth 20000 in
theorem gX6_sheet_X6_isSheet : GoodIn wsX6_sheet (va_wsS RX6 197 yX6_isSheet wsX6_isSheet) := goodIn_app (goodIn_of _ (by decide +kernel)) ggX6_sheet_X6_isSheet
set_option maxRecDepth 20000 in
theorem ggX6_sheet_X6_isLane : GoodIn wsX6_sheet wsX6_isLane := goodIn_r _ [8] (by decide +kernel) (by decide +kernel)
set_option maxRecDepth 20000 in
theorem gX6_sheet_X6_isLane : GoodIn wsX6_sheet (va_wsS RX6 200 yX6_isLane wsX6_isLane) := goodIn_app (goodIn_of _ (by decide +kernel)) ggX6_sheet_X6_isLane
set_option maxRecDepth 20000 in
theorem ggX6_sheet_X2_startRow : GoodIn wsX6_sheet wsX2_startRow := goodIn_r _ [13, 14, 15, 16, 17, 18, 19, 20, 28, 29, 30] (by decide +kernel) (by decide +kernel)
set_option maxRecDepth 20000 in
theorem gX6_sheet_X2_startRow : GoodIn wsX6_sheet (wsV RX6 219 RX2 yX2_startRow wsX2_startRow) := goodIn_app (goodIn_of _ (by decide +kernel)) ggX6_sheet_X2_startRow
theorem dX6_sheet_0 : decode cX6_sheet 0 = .ok (.iload_n 1, 1) := by decide +kernel
theorem dX6_sheet_1 : decode cX6_sheet 1 = .ok (.invokestatic 197, 3) := by decide +kernel
theorem dX6_sheet_4 : decode cX6_sheet 4 = .ok (.ifCond .eq 16, 3) := by decide +kernel
theorem dX6_sheet_7 : decode cX6_sheet 7 = .ok (.iload_n 2, 1) := by decide +kernel
theorem dX6_sheet_8 : decode cX6_sheet 8 = .ok (.invokestatic 200, 3) := by decide +kernel
theorem dX6_sheet_11 : decode cX6_sheet 11 = .ok (.ifCond .eq 9, 3) := by decide +kernel
theorem dX6_sheet_14 : decode cX6_sheet 14 = .ok (.iload_n 3, 1) := by decide +kernel
theorem dX6_sheet_15 : decode cX6_sheet 15 = .ok (.bipush 30, 2) := by decide +kernel
theorem dX6_sheet_17 : decode cX6_sheet 17 = .ok (.if_icmp .le 5, 3) := by decide +kernel
theorem dX6_sheet_20 : decode cX6_sheet 20 = .ok (.iconst (-1), 1) := by decide +kernel
theorem dX6_sheet_21 : decode cX6_sheet 21 = .ok (.ireturn, 1) := by decide +kernel
theorem dX6_sheet_22 : decode cX6_sheet 22 = .ok (.iload_n 3, 1) := by decide +kernel
theorem dX6_sheet_23 : decode cX6_sheet 23 = .ok (.ifCond .ge 6, 3) := by decide +kernel
theorem dX6_sheet_26 : decode cX6_sheet 26 = .ok (.bipush (-14), 2) := by decide +kernel
theorem dX6_sheet_28 : decode cX6_sheet 28 = .ok (.ireturn, 1) := by decide +kernel
theorem dX6_sheet_29 : decode cX6_sheet 29 = .ok (.aload_n 0, 1) := by decide +kernel
theorem dX6_sheet_30 : decode cX6_sheet 30 = .ok (.getfield 35, 3) := by decide +kernel
theorem dX6_sheet_33 : decode cX6_sheet 33 = .ok (.iload_n 1, 1) := by decide +kernel
theorem dX6_sheet_34 : decode cX6_sheet 34 = .ok (.aaload, 1) := by decide +kernel
theorem dX6_sheet_35 : decode cX6_sheet 35 = .ok (.iload_n 2, 1) := by decide +kernel
theorem dX6_sheet_36 : decode cX6_sheet 36 = .ok (.iload_n 3, 1) := by decide +kernel
theorem dX6_sheet_37 : decode cX6_sheet 37 = .ok (.invokevirtual 219, 3) := by decide +kernel
theorem dX6_sheet_40 : decode cX6_sheet 40 = .ok (.iload_n 3, 1) := by decide +kernel
theorem dX6_sheet_41 : decode cX6_sheet 41 = .ok (.ireturn, 1) := by decide +kernel
set_option maxRecDepth 20000 in
theorem ggX6_drop_X6_isSheet : GoodIn wsX6_drop wsX6_isSheet := goodIn_r _ [5] (by decide +kernel) (by decide +kernel)
set_option maxRecDepth 20000 in
theorem gX6_drop_X6_isSheet : GoodIn wsX6_drop (va_wsS RX6 197 yX6_isSheet wsX6_isSheet) := goodIn_app (goodIn_of _ (by decide +kernel)) ggX6_drop_X6_isSheet
set_option maxRecDepth 20000 in
theorem ggX6_drop_X2_holdsNothing : GoodIn wsX6_drop wsX2_holdsNothing := goodIn_r _ [10, 11, 24, 25, 26] (by decide +kernel) (by decide +kernel)
set_option maxRecDepth 20000 in
theorem gX6_drop_X2_holdsNothing : GoodIn wsX6_drop (wsV RX6 222 RX2 yX2_holdsNothing wsX2_holdsNothing) := goodIn_app (goodIn_of _ (by decide +kernel)) ggX6_drop_X2_holdsNothing
set_option maxRecDepth 20000 in
theorem ggX6_drop_X2_makeNothing : GoodIn wsX6_drop wsX2_makeNothing := goodIn_r _ [15, 16, 11, 24, 25, 26] (by decide +kernel) (by decide +kernel)
set_option maxRecDepth 20000 in
theorem gX6_drop_X2_makeNothing : GoodIn wsX6_drop (wsV RX6 226 RX2 yX2_makeNothing wsX2_makeNothing) := goodIn_app (goodIn_of _ (by decide +kernel)) ggX6_drop_X2_makeNothing
theorem dX6_drop_0 : decode cX6_drop 0 = .ok (.iload_n 1, 1) := by decide +kernel
theorem dX6_drop_1 : decode cX6_drop 1 = .ok (.invokestatic 197, 3) := by decide +kernel
theorem dX6_drop_4 : decode cX6_drop 4 = .ok (.ifCond .ne 5, 3) := by decide +kernel
theorem dX6_drop_7 : decode cX6_drop 7 = .ok (.iconst (-1), 1) := by decide +kernel
theorem dX6_drop_8 : decode cX6_drop 8 = .ok (.ireturn, 1) := by decide +kernel
theorem dX6_drop_9 : decode cX6_drop 9 = .ok (.aload_n 0, 1) := by decide +kernel
theorem dX6_drop_10 : decode cX6_drop 10 = .ok (.getfield 35, 3) := by decide +kernel
theorem dX6_drop_13 : decode cX6_drop 13 = .ok (.iload_n 1, 1) := by decide +kernel
theorem dX6_drop_14 : decode cX6_drop 14 = .ok (.aaload, 1) := by decide +kernel
theorem dX6_drop_15 : decode cX6_drop 15 = .ok (.invokevirtual 222, 3) := by decide +kernel
theorem dX6_drop_18 : decode cX6_drop 18 = .ok (.ifCond .eq 6, 3) := by decide +kernel
theorem dX6_drop_21 : decode cX6_drop 21 = .ok (.bipush (-11), 2) := by decide +kernel
theorem dX6_drop_23 : decode cX6_drop 23 = .ok (.ireturn, 1) := by decide +kernel
theorem dX6_drop_24 : decode cX6_drop 24 = .ok (.aload_n 0, 1) := by decide +kernel
theorem dX6_drop_25 : decode cX6_drop 25 = .ok (.getfield 35, 3) := by decide +kernel
theorem dX6_drop_28 : decode cX6_drop 28 = .ok (.iload_n 1, 1) := by decide +kernel
theorem dX6_drop_29 : decode cX6_drop 29 = .ok (.aaload, 1) := by decide +kernel
theorem dX6_drop_30 : decode cX6_drop 30 = .ok (.invokevirtual 226, 3) := by decide +kernel
theorem dX6_drop_33 : decode cX6_drop 33 = .ok (.ireturn, 1) := by decide +kernel
set_option maxRecDepth 20000 in
theorem ggX6_item_X6_isSheet : GoodIn wsX6_item wsX6_isSheet := goodIn_r _ [5] (by decide +kernel) (by decide +kernel)
set_option maxRecDepth 20000 in
theorem gX6_item_X6_isSheet : GoodIn wsX6_item (va_wsS RX6 197 yX6_isSheet wsX6_isSheet) := goodIn_app (goodIn_of _ (by decide +kernel)) ggX6_item_X6_isSheet
set_option maxRecDepth 20000 in
theorem ggX6_item_X6_isLane : GoodIn wsX6_item wsX6_isLane := goodIn_r _ [8] (by decide +kernel) (by decide +kernel)
set_option maxRecDepth 20000 in
theorem gX6_item_X6_isLane : GoodIn wsX6_item (va_wsS RX6 200 yX6_isLane wsX6_isLane) := goodIn_app (goodIn_of _ (by decide +kernel)) ggX6_item_X6_isLane
set_option maxRecDepth 20000 in
theorem ggX6_item_X2_refusal : GoodIn wsX6_item wsX2_refusal := goodIn_r _ [13, 14, 15, 16, 17, 12, 18, 19, 20, 21, 22, 23, 40, 41, 42] (by decide +kernel) (by decide +kernel)
set_option maxRecDepth 20000 in
theorem gX6_item_X2_refusal : GoodIn wsX6_item (wsV RX6 203 RX2 yX2_refusal wsX2_refusal) := goodIn_app (goodIn_of _ (by decide +kernel)) ggX6_item_X2_refusal
set_option maxRecDepth 20000 in
theorem ggX6_item_X2_setItem : GoodIn wsX6_item wsX2_setItem := goodIn_r _ [27, 28, 19, 20, 21, 12, 22, 23, 29, 30, 31, 32, 14, 40, 41, 42] (by decide +kernel) (by decide +kernel)
set_option maxRecDepth 20000 in
theorem gX6_item_X2_setItem : GoodIn wsX6_item (wsV RX6 215 RX2 yX2_setItem wsX2_setItem) := goodIn_app (goodIn_of _ (by decide +kernel)) ggX6_item_X2_setItem
theorem dX6_item_0 : decode cX6_item 0 = .ok (.iload_n 1, 1) := by decide +kernel
theorem dX6_item_1 : decode cX6_item 1 = .ok (.invokestatic 197, 3) := by decide +kernel
theorem dX6_item_4 : decode cX6_item 4 = .ok (.ifCond .eq 10, 3) := by decide +kernel
theorem dX6_item_7 : decode cX6_item 7 = .ok (.iload_n 2, 1) := by decide +kernel
theorem dX6_item_8 : decode cX6_item 8 = .ok (.invokestatic 200, 3) := by decide +kernel
theorem dX6_item_11 : decode cX6_item 11 = .ok (.ifCond .ne 5, 3) := by decide +kernel
theorem dX6_item_14 : decode cX6_item 14 = .ok (.iconst (-1), 1) := by decide +kernel
theorem dX6_item_15 : decode cX6_item 15 = .ok (.ireturn, 1) := by decide +kernel
theorem dX6_item_16 : decode cX6_item 16 = .ok (.aload_n 0, 1) := by decide +kernel
theorem dX6_item_17 : decode cX6_item 17 = .ok (.getfield 35, 3) := by decide +kernel
theorem dX6_item_20 : decode cX6_item 20 = .ok (.iload_n 1, 1) := by decide +kernel
theorem dX6_item_21 : decode cX6_item 21 = .ok (.aaload, 1) := by decide +kernel
theorem dX6_item_22 : decode cX6_item 22 = .ok (.iload_n 2, 1) := by decide +kernel
theorem dX6_item_23 : decode cX6_item 23 = .ok (.iload_n 3, 1) := by decide +kernel
theorem dX6_item_24 : decode cX6_item 24 = .ok (.iconst 1, 1) := by decide +kernel
theorem dX6_item_25 : decode cX6_item 25 = .ok (.invokevirtual 203, 3) := by decide +kernel
theorem dX6_item_28 : decode cX6_item 28 = .ok (.istore 6, 2) := by decide +kernel
theorem dX6_item_30 : decode cX6_item 30 = .ok (.iload 6, 2) := by decide +kernel
theorem dX6_item_32 : decode cX6_item 32 = .ok (.ifCond .eq 6, 3) := by decide +kernel
theorem dX6_item_35 : decode cX6_item 35 = .ok (.iload 6, 2) := by decide +kernel
theorem dX6_item_37 : decode cX6_item 37 = .ok (.ireturn, 1) := by decide +kernel
theorem dX6_item_38 : decode cX6_item 38 = .ok (.aload_n 0, 1) := by decide +kernel
theorem dX6_item_39 : decode cX6_item 39 = .ok (.getfield 35, 3) := by decide +kernel
theorem dX6_item_42 : decode cX6_item 42 = .ok (.iload_n 1, 1) := by decide +kernel
theorem dX6_item_43 : decode cX6_item 43 = .ok (.aaload, 1) := by decide +kernel
theorem dX6_item_44 : decode cX6_item 44 = .ok (.iload_n 3, 1) := by decide +kernel
theorem dX6_item_45 : decode cX6_item 45 = .ok (.lload 4, 2) := by decide +kernel
theorem dX6_item_47 : decode cX6_item 47 = .ok (.invokevirtual 215, 3) := by decide +kernel
theorem dX6_item_50 : decode cX6_item 50 = .ok (.iconst 1, 1) := by decide +kernel
theorem dX6_item_51 : decode cX6_item 51 = .ok (.ireturn, 1) := by decide +kernel
set_option maxRecDepth 20000 in
theorem ggX6_copy_X6_isSheet : GoodIn wsX6_copy wsX6_isSheet := goodIn_r _ [5] (by decide +kernel) (by decide +kernel)
set_option maxRecDepth 20000 in
theorem gX6_copy_X6_isSheet : GoodIn wsX6_copy (va_wsS RX6 197 yX6_isSheet wsX6_isSheet) := goodIn_app (goodIn_of _ (by decide +kernel)) ggX6_copy_X6_isSheet
set_option maxRecDepth 20000 in
theorem ggX6_copy_X2_holdsNothing : GoodIn wsX6_copy wsX2_holdsNothing := goodIn_r _ [10, 11, 38, 39, 40] (by decide +kernel) (by decide +kernel)
set_option maxRecDepth 20000 in
theorem gX6_copy_X2_holdsNothing : GoodIn wsX6_copy (wsV RX6 222 RX2 yX2_holdsNothing wsX2_holdsNothing) := goodIn_app (goodIn_of _ (by decide +kernel)) ggX6_copy_X2_holdsNothing
set_option maxRecDepth 20000 in
theorem ggX6_copy_X2_hasLaneOf : GoodIn wsX6_copy wsX2_hasLaneOf := goodIn_r _ [15, 11, 38, 39, 40] (by decide +kernel) (by decide +kernel)
set_option maxRecDepth 20000 in
theorem gX6_copy_X2_hasLaneOf : GoodIn wsX6_copy (wsV RX6 229 RX2 yX2_hasLaneOf wsX2_hasLaneOf) := goodIn_app (goodIn_of _ (by decide +kernel)) ggX6_copy_X2_hasLaneOf
set_option maxRecDepth 20000 in
theorem ggX6_copy_X2_hasItems : GoodIn wsX6_copy wsX2_hasItems := goodIn_r _ [19, 20, 38, 39, 40] (by decide +kernel) (by decide +kernel)
set_option maxRecDepth 20000 in
theorem gX6_copy_X2_hasItems : GoodIn wsX6_copy (wsV RX6 233 RX2 yX2_hasItems wsX2_hasItems) := goodIn_app (goodIn_of _ (by decide +kernel)) ggX6_copy_X2_hasItems
set_option maxRecDepth 20000 in
theorem ggX6_copy_X2_takeItems : GoodIn wsX6_copy wsX2_takeItems := goodIn_r _ [24, 25, 26, 27, 28, 29, 30, 17, 18, 9, 19, 20, 38, 39, 40] (by decide +kernel) (by decide +kernel)
set_option maxRecDepth 20000 in
theorem gX6_copy_X2_takeItems : GoodIn wsX6_copy (wsV RX6 236 RX2 yX2_takeItems wsX2_takeItems) := goodIn_app (goodIn_of _ (by decide +kernel)) ggX6_copy_X2_takeItems
theorem dX6_copy_0 : decode cX6_copy 0 = .ok (.iload_n 1, 1) := by decide +kernel
theorem dX6_copy_1 : decode cX6_copy 1 = .ok (.invokestatic 197, 3) := by decide +kernel
theorem dX6_copy_4 : decode cX6_copy 4 = .ok (.ifCond .eq 10, 3) := by decide +kernel
theorem dX6_copy_7 : decode cX6_copy 7 = .ok (.iload_n 3, 1) := by decide +kernel
theorem dX6_copy_8 : decode cX6_copy 8 = .ok (.invokestatic 197, 3) := by decide +kernel
theorem dX6_copy_11 : decode cX6_copy 11 = .ok (.ifCond .ne 5, 3) := by decide +kernel
theorem dX6_copy_14 : decode cX6_copy 14 = .ok (.iconst (-1), 1) := by decide +kernel
theorem dX6_copy_15 : decode cX6_copy 15 = .ok (.ireturn, 1) := by decide +kernel
theorem dX6_copy_16 : decode cX6_copy 16 = .ok (.aload_n 0, 1) := by decide +kernel
theorem dX6_copy_17 : decode cX6_copy 17 = .ok (.getfield 35, 3) := by decide +kernel
theorem dX6_copy_20 : decode cX6_copy 20 = .ok (.iload_n 1, 1) := by decide +kernel
theorem dX6_copy_21 : decode cX6_copy 21 = .ok (.aaload, 1) := by decide +kernel
theorem dX6_copy_22 : decode cX6_copy 22 = .ok (.astore 6, 2) := by decide +kernel
theorem dX6_copy_24 : decode cX6_copy 24 = .ok (.aload_n 0, 1) := by decide +kernel
theorem dX6_copy_25 : decode cX6_copy 25 = .ok (.getfield 35, 3) := by decide +kernel
theorem dX6_copy_28 : decode cX6_copy 28 = .ok (.iload_n 3, 1) := by decide +kernel
theorem dX6_copy_29 : decode cX6_copy 29 = .ok (.aaload, 1) := by decide +kernel
theorem dX6_copy_30 : decode cX6_copy 30 = .ok (.astore 7, 2) := by decide +kernel
theorem dX6_copy_32 : decode cX6_copy 32 = .ok (.aload 6, 2) := by decide +kernel
theorem dX6_copy_34 : decode cX6_copy 34 = .ok (.invokevirtual 222, 3) := by decide +kernel
theorem dX6_copy_37 : decode cX6_copy 37 = .ok (.ifCond .ne 11, 3) := by decide +kernel
theorem dX6_copy_40 : decode cX6_copy 40 = .ok (.aload 7, 2) := by decide +kernel
theorem dX6_copy_42 : decode cX6_copy 42 = .ok (.invokevirtual 222, 3) := by decide +kernel
theorem dX6_copy_45 : decode cX6_copy 45 = .ok (.ifCond .eq 6, 3) := by decide +kernel
theorem dX6_copy_48 : decode cX6_copy 48 = .ok (.bipush (-11), 2) := by decide +kernel
theorem dX6_copy_50 : decode cX6_copy 50 = .ok (.ireturn, 1) := by decide +kernel
theorem dX6_copy_51 : decode cX6_copy 51 = .ok (.aload 7, 2) := by decide +kernel
theorem dX6_copy_53 : decode cX6_copy 53 = .ok (.aload 6, 2) := by decide +kernel
theorem dX6_copy_55 : decode cX6_copy 55 = .ok (.invokevirtual 229, 3) := by decide +kernel
theorem dX6_copy_58 : decode cX6_copy 58 = .ok (.ifCond .ne 6, 3) := by decide +kernel
theorem dX6_copy_61 : decode cX6_copy 61 = .ok (.bipush (-12), 2) := by decide +kernel
theorem dX6_copy_63 : decode cX6_copy 63 = .ok (.ireturn, 1) := by decide +kernel
theorem dX6_copy_64 : decode cX6_copy 64 = .ok (.aload 6, 2) := by decide +kernel
theorem dX6_copy_66 : decode cX6_copy 66 = .ok (.iload_n 2, 1) := by decide +kernel
theorem dX6_copy_67 : decode cX6_copy 67 = .ok (.iload 5, 2) := by decide +kernel
theorem dX6_copy_69 : decode cX6_copy 69 = .ok (.invokevirtual 233, 3) := by decide +kernel
theorem dX6_copy_72 : decode cX6_copy 72 = .ok (.ifCond .eq 15, 3) := by decide +kernel
theorem dX6_copy_75 : decode cX6_copy 75 = .ok (.aload 7, 2) := by decide +kernel
theorem dX6_copy_77 : decode cX6_copy 77 = .ok (.iload 4, 2) := by decide +kernel
theorem dX6_copy_79 : decode cX6_copy 79 = .ok (.iload 5, 2) := by decide +kernel
theorem dX6_copy_81 : decode cX6_copy 81 = .ok (.invokevirtual 233, 3) := by decide +kernel
theorem dX6_copy_84 : decode cX6_copy 84 = .ok (.ifCond .ne 6, 3) := by decide +kernel
theorem dX6_copy_87 : decode cX6_copy 87 = .ok (.bipush (-13), 2) := by decide +kernel
theorem dX6_copy_89 : decode cX6_copy 89 = .ok (.ireturn, 1) := by decide +kernel
theorem dX6_copy_90 : decode cX6_copy 90 = .ok (.aload 7, 2) := by decide +kernel
theorem dX6_copy_92 : decode cX6_copy 92 = .ok (.iload 4, 2) := by decide +kernel
theorem dX6_copy_94 : decode cX6_copy 94 = .ok (.aload 6, 2) := by decide +kernel
theorem dX6_copy_96 : decode cX6_copy 96 = .ok (.iload_n 2, 1) := by decide +kernel
theorem dX6_copy_97 : decode cX6_copy 97 = .ok (.iload 5, 2) := by decide +kernel
theorem dX6_copy_99 : decode cX6_copy 99 = .ok (.invokevirtual 236, 3) := by decide +kernel
theorem dX6_copy_102 : decode cX6_copy 102 = .ok (.iload 5, 2) := by decide +kernel
theorem dX6_copy_104 : decode cX6_copy 104 = .ok (.ireturn, 1) := by decide +kernel
theorem dX6_isAddress_0 : decode cX6_isAddress 0 = .ok (.iload_n 0, 1) := by decide +kernel
theorem dX6_isAddress_1 : decode cX6_isAddress 1 = .ok (.ifCond .lt 14, 3) := by decide +kernel
theorem dX6_isAddress_4 : decode cX6_isAddress 4 = .ok (.iload_n 0, 1) := by decide +kernel
theorem dX6_isAddress_5 : decode cX6_isAddress 5 = .ok (.sipush 256, 3) := by decide +kernel
theorem dX6_isAddress_8 : decode cX6_isAddress 8 = .ok (.if_icmp .ge 7, 3) := by decide +kernel
theorem dX6_isAddress_11 : decode cX6_isAddress 11 = .ok (.iconst 1, 1) := by decide +kernel
theorem dX6_isAddress_12 : decode cX6_isAddress 12 = .ok (.goto 4, 3) := by decide +kernel
theorem dX6_isAddress_15 : decode cX6_isAddress 15 = .ok (.iconst 0, 1) := by decide +kernel
theorem dX6_isAddress_16 : decode cX6_isAddress 16 = .ok (.ireturn, 1) := by decide +kernel
theorem dX6_isPrefix_0 : decode cX6_isPrefix 0 = .ok (.iload_n 0, 1) := by decide +kernel
theorem dX6_isPrefix_1 : decode cX6_isPrefix 1 = .ok (.iconst 1, 1) := by decide +kernel
theorem dX6_isPrefix_2 : decode cX6_isPrefix 2 = .ok (.if_icmp .lt 14, 3) := by decide +kernel
theorem dX6_isPrefix_5 : decode cX6_isPrefix 5 = .ok (.iload_n 0, 1) := by decide +kernel
theorem dX6_isPrefix_6 : decode cX6_isPrefix 6 = .ok (.sipush 512, 3) := by decide +kernel
theorem dX6_isPrefix_9 : decode cX6_isPrefix 9 = .ok (.if_icmp .ge 7, 3) := by decide +kernel
theorem dX6_isPrefix_12 : decode cX6_isPrefix 12 = .ok (.iconst 1, 1) := by decide +kernel
theorem dX6_isPrefix_13 : decode cX6_isPrefix 13 = .ok (.goto 4, 3) := by decide +kernel
theorem dX6_isPrefix_16 : decode cX6_isPrefix 16 = .ok (.iconst 0, 1) := by decide +kernel
theorem dX6_isPrefix_17 : decode cX6_isPrefix 17 = .ok (.ireturn, 1) := by decide +kernel
theorem dX6_isHop_0 : decode cX6_isHop 0 = .ok (.iload_n 0, 1) := by decide +kernel
theorem dX6_isHop_1 : decode cX6_isHop 1 = .ok (.ifCond .lt 13, 3) := by decide +kernel
theorem dX6_isHop_4 : decode cX6_isHop 4 = .ok (.iload_n 0, 1) := by decide +kernel
theorem dX6_isHop_5 : decode cX6_isHop 5 = .ok (.bipush 8, 2) := by decide +kernel
theorem dX6_isHop_7 : decode cX6_isHop 7 = .ok (.if_icmp .ge 7, 3) := by decide +kernel
theorem dX6_isHop_10 : decode cX6_isHop 10 = .ok (.iconst 1, 1) := by decide +kernel
theorem dX6_isHop_11 : decode cX6_isHop 11 = .ok (.goto 4, 3) := by decide +kernel
theorem dX6_isHop_14 : decode cX6_isHop 14 = .ok (.iconst 0, 1) := by decide +kernel
theorem dX6_isHop_15 : decode cX6_isHop 15 = .ok (.ireturn, 1) := by decide +kernel
theorem dX6_isSheet_0 : decode cX6_isSheet 0 = .ok (.iload_n 0, 1) := by decide +kernel
theorem dX6_isSheet_1 : decode cX6_isSheet 1 = .ok (.ifCond .lt 12, 3) := by decide +kernel
theorem dX6_isSheet_4 : decode cX6_isSheet 4 = .ok (.iload_n 0, 1) := by decide +kernel
theorem dX6_isSheet_5 : decode cX6_isSheet 5 = .ok (.iconst 4, 1) := by decide +kernel
theorem dX6_isSheet_6 : decode cX6_isSheet 6 = .ok (.if_icmp .ge 7, 3) := by decide +kernel
theorem dX6_isSheet_9 : decode cX6_isSheet 9 = .ok (.iconst 1, 1) := by decide +kernel
theorem dX6_isSheet_10 : decode cX6_isSheet 10 = .ok (.goto 4, 3) := by decide +kernel
theorem dX6_isSheet_13 : decode cX6_isSheet 13 = .ok (.iconst 0, 1) := by decide +kernel
theorem dX6_isSheet_14 : decode cX6_isSheet 14 = .ok (.ireturn, 1) := by decide +kernel
theorem dX6_isLane_0 : decode cX6_isLane 0 = .ok (.iload_n 0, 1) := by decide +kernel
theorem dX6_isLane_1 : decode cX6_isLane 1 = .ok (.ifCond .lt 12, 3) := by decide +kernel
theorem dX6_isLane_4 : decode cX6_isLane 4 = .ok (.iload_n 0, 1) := by decide +kernel
theorem dX6_isLane_5 : decode cX6_isLane 5 = .ok (.iconst 4, 1) := by decide +kernel
theorem dX6_isLane_6 : decode cX6_isLane 6 = .ok (.if_icmp .ge 7, 3) := by decide +kernel
theorem dX6_isLane_9 : decode cX6_isLane 9 = .ok (.iconst 1, 1) := by decide +kernel
theorem dX6_isLane_10 : decode cX6_isLane 10 = .ok (.goto 4, 3) := by decide +kernel
theorem dX6_isLane_13 : decode cX6_isLane 13 = .ok (.iconst 0, 1) := by decide +kernel
theorem dX6_isLane_14 : decode cX6_isLane 14 = .ok (.ireturn, 1) := by decide +kernel
set_option maxRecDepth 20000 in
theorem ggX6_lowestHop_J6_numberOfTrailingZeros_0f7a4 : GoodIn wsX6_lowestHop wsJ6_numberOfTrailingZeros_0f7a4 := goodIn_r _ [4, 5] (by decide +kernel) (by decide +kernel)
set_option maxRecDepth 20000 in
theorem gX6_lowestHop_J6_numberOfTrailingZeros_0f7a4 : GoodIn wsX6_lowestHop (va_wsS RX6 240 yJ6_numberOfTrailingZeros_0f7a4 wsJ6_numberOfTrailingZeros_0f7a4) := goodIn_app (goodIn_of _ (by decide +kernel)) ggX6_lowestHop_J6_numberOfTrailingZeros_0f7a4
theorem dX6_lowestHop_0 : decode cX6_lowestHop 0 = .ok (.iload_n 0, 1) := by decide +kernel
theorem dX6_lowestHop_1 : decode cX6_lowestHop 1 = .ok (.ifCond .ne 8, 3) := by decide +kernel
theorem dX6_lowestHop_4 : decode cX6_lowestHop 4 = .ok (.bipush (-4), 2) := by decide +kernel
theorem dX6_lowestHop_6 : decode cX6_lowestHop 6 = .ok (.goto 7, 3) := by decide +kernel
theorem dX6_lowestHop_9 : decode cX6_lowestHop 9 = .ok (.iload_n 0, 1) := by decide +kernel
theorem dX6_lowestHop_10 : decode cX6_lowestHop 10 = .ok (.invokestatic 240, 3) := by decide +kernel
theorem dX6_lowestHop_13 : decode cX6_lowestHop 13 = .ok (.ireturn, 1) := by decide +kernel
set_option maxRecDepth 20000 in
theorem ggX6_isOneHop_J6_bitCount_0f7a4 : GoodIn wsX6_isOneHop wsJ6_bitCount_0f7a4 := goodIn_r _ [4, 5, 6, 7] (by decide +kernel) (by decide +kernel)
set_option maxRecDepth 20000 in
theorem gX6_isOneHop_J6_bitCount_0f7a4 : GoodIn wsX6_isOneHop (va_wsS RX6 245 yJ6_bitCount_0f7a4 wsJ6_bitCount_0f7a4) := goodIn_app (goodIn_of _ (by decide +kernel)) ggX6_isOneHop_J6_bitCount_0f7a4
theorem dX6_isOneHop_0 : decode cX6_isOneHop 0 = .ok (.iload_n 0, 1) := by decide +kernel
theorem dX6_isOneHop_1 : decode cX6_isOneHop 1 = .ok (.invokestatic 245, 3) := by decide +kernel
theorem dX6_isOneHop_4 : decode cX6_isOneHop 4 = .ok (.iconst 1, 1) := by decide +kernel
theorem dX6_isOneHop_5 : decode cX6_isOneHop 5 = .ok (.if_icmp .ne 7, 3) := by decide +kernel
theorem dX6_isOneHop_8 : decode cX6_isOneHop 8 = .ok (.iconst 1, 1) := by decide +kernel
theorem dX6_isOneHop_9 : decode cX6_isOneHop 9 = .ok (.goto 4, 3) := by decide +kernel
theorem dX6_isOneHop_12 : decode cX6_isOneHop 12 = .ok (.iconst 0, 1) := by decide +kernel
theorem dX6_isOneHop_13 : decode cX6_isOneHop 13 = .ok (.ireturn, 1) := by decide +kernel
set_option maxRecDepth 20000 in
theorem ggX6_bitsOf_J6_numberOfLeadingZeros_0f7a4 : GoodIn wsX6_bitsOf wsJ6_numberOfLeadingZeros_0f7a4 := goodIn_r _ [4, 5] (by decide +kernel) (by decide +kernel)
set_option maxRecDepth 20000 in
theorem gX6_bitsOf_J6_numberOfLeadingZeros_0f7a4 : GoodIn wsX6_bitsOf (va_wsS RX6 248 yJ6_numberOfLeadingZeros_0f7a4 wsJ6_numberOfLeadingZeros_0f7a4) := goodIn_app (goodIn_of _ (by decide +kernel)) ggX6_bitsOf_J6_numberOfLeadingZeros_0f7a4
theorem dX6_bitsOf_0 : decode cX6_bitsOf 0 = .ok (.bipush 31, 2) := by decide +kernel
theorem dX6_bitsOf_2 : decode cX6_bitsOf 2 = .ok (.iload_n 0, 1) := by decide +kernel
theorem dX6_bitsOf_3 : decode cX6_bitsOf 3 = .ok (.invokestatic 248, 3) := by decide +kernel
theorem dX6_bitsOf_6 : decode cX6_bitsOf 6 = .ok (.isub, 1) := by decide +kernel
theorem dX6_bitsOf_7 : decode cX6_bitsOf 7 = .ok (.ireturn, 1) := by decide +kernel
set_option maxRecDepth 20000 in
theorem ggX6_firstAddress_X6_bitsOf : GoodIn wsX6_firstAddress wsX6_bitsOf := goodIn_r _ [4, 5, 6, 7, 8, 9] (by decide +kernel) (by decide +kernel)
set_option maxRecDepth 20000 in
theorem gX6_firstAddress_X6_bitsOf : GoodIn wsX6_firstAddress (va_wsS RX6 251 yX6_bitsOf wsX6_bitsOf) := goodIn_app (goodIn_of _ (by decide +kernel)) ggX6_firstAddress_X6_bitsOf
theorem dX6_firstAddress_0 : decode cX6_firstAddress 0 = .ok (.iload_n 0, 1) := by decide +kernel
theorem dX6_firstAddress_1 : decode cX6_firstAddress 1 = .ok (.bipush 8, 2) := by decide +kernel
theorem dX6_firstAddress_3 : decode cX6_firstAddress 3 = .ok (.iload_n 0, 1) := by decide +kernel
theorem dX6_firstAddress_4 : decode cX6_firstAddress 4 = .ok (.invokestatic 251, 3) := by decide +kernel
theorem dX6_firstAddress_7 : decode cX6_firstAddress 7 = .ok (.isub, 1) := by decide +kernel
theorem dX6_firstAddress_8 : decode cX6_firstAddress 8 = .ok (.ishl, 1) := by decide +kernel
theorem dX6_firstAddress_9 : decode cX6_firstAddress 9 = .ok (.sipush 256, 3) := by decide +kernel
theorem dX6_firstAddress_12 : decode cX6_firstAddress 12 = .ok (.isub, 1) := by decide +kernel
theorem dX6_firstAddress_13 : decode cX6_firstAddress 13 = .ok (.ireturn, 1) := by decide +kernel
set_option maxRecDepth 20000 in
theorem ggX6_howManyAddresses_X6_bitsOf : GoodIn wsX6_howManyAddresses wsX6_bitsOf := goodIn_r _ [4, 5, 6, 7, 8, 9] (by decide +kernel) (by decide +kernel)
set_option maxRecDepth 20000 in
theorem gX6_howManyAddresses_X6_bitsOf : GoodIn wsX6_howManyAddresses (va_wsS RX6 251 yX6_bitsOf wsX6_bitsOf) := goodIn_app (goodIn_of _ (by decide +kernel)) ggX6_howManyAddresses_X6_bitsOf
theorem dX6_howManyAddresses_0 : decode cX6_howManyAddresses 0 = .ok (.iconst 1, 1) := by decide +kernel
theorem dX6_howManyAddresses_1 : decode cX6_howManyAddresses 1 = .ok (.bipush 8, 2) := by decide +kernel
theorem dX6_howManyAddresses_3 : decode cX6_howManyAddresses 3 = .ok (.iload_n 0, 1) := by decide +kernel
theorem dX6_howManyAddresses_4 : decode cX6_howManyAddresses 4 = .ok (.invokestatic 251, 3) := by decide +kernel
theorem dX6_howManyAddresses_7 : decode cX6_howManyAddresses 7 = .ok (.isub, 1) := by decide +kernel
theorem dX6_howManyAddresses_8 : decode cX6_howManyAddresses 8 = .ok (.ishl, 1) := by decide +kernel
theorem dX6_howManyAddresses_9 : decode cX6_howManyAddresses 9 = .ok (.ireturn, 1) := by decide +kernel
theorem dX6_greatestDivisor_0 : decode cX6_greatestDivisor 0 = .ok (.lload_n 0, 1) := by decide +kernel
theorem dX6_greatestDivisor_1 : decode cX6_greatestDivisor 1 = .ok (.lstore 4, 2) := by decide +kernel
theorem dX6_greatestDivisor_3 : decode cX6_greatestDivisor 3 = .ok (.lload_n 2, 1) := by decide +kernel
theorem dX6_greatestDivisor_4 : decode cX6_greatestDivisor 4 = .ok (.lstore 6, 2) := by decide +kernel
theorem dX6_greatestDivisor_6 : decode cX6_greatestDivisor 6 = .ok (.iconst 0, 1) := by decide +kernel
theorem dX6_greatestDivisor_7 : decode cX6_greatestDivisor 7 = .ok (.istore 8, 2) := by decide +kernel
theorem dX6_greatestDivisor_9 : decode cX6_greatestDivisor 9 = .ok (.iload 8, 2) := by decide +kernel
theorem dX6_greatestDivisor_11 : decode cX6_greatestDivisor 11 = .ok (.bipush 100, 2) := by decide +kernel
theorem dX6_greatestDivisor_13 : decode cX6_greatestDivisor 13 = .ok (.if_icmp .ge 31, 3) := by decide +kernel
theorem dX6_greatestDivisor_16 : decode cX6_greatestDivisor 16 = .ok (.lload 6, 2) := by decide +kernel
theorem dX6_greatestDivisor_18 : decode cX6_greatestDivisor 18 = .ok (.lconst 0, 1) := by decide +kernel
theorem dX6_greatestDivisor_19 : decode cX6_greatestDivisor 19 = .ok (.lcmp, 1) := by decide +kernel
theorem dX6_greatestDivisor_20 : decode cX6_greatestDivisor 20 = .ok (.ifCond .eq 24, 3) := by decide +kernel
theorem dX6_greatestDivisor_23 : decode cX6_greatestDivisor 23 = .ok (.lload 4, 2) := by decide +kernel
theorem dX6_greatestDivisor_25 : decode cX6_greatestDivisor 25 = .ok (.lload 6, 2) := by decide +kernel
theorem dX6_greatestDivisor_27 : decode cX6_greatestDivisor 27 = .ok (.lrem, 1) := by decide +kernel
theorem dX6_greatestDivisor_28 : decode cX6_greatestDivisor 28 = .ok (.lstore 9, 2) := by decide +kernel
theorem dX6_greatestDivisor_30 : decode cX6_greatestDivisor 30 = .ok (.lload 6, 2) := by decide +kernel
theorem dX6_greatestDivisor_32 : decode cX6_greatestDivisor 32 = .ok (.lstore 4, 2) := by decide +kernel
theorem dX6_greatestDivisor_34 : decode cX6_greatestDivisor 34 = .ok (.lload 9, 2) := by decide +kernel
theorem dX6_greatestDivisor_36 : decode cX6_greatestDivisor 36 = .ok (.lstore 6, 2) := by decide +kernel
theorem dX6_greatestDivisor_38 : decode cX6_greatestDivisor 38 = .ok (.iinc 8 1, 3) := by decide +kernel
theorem dX6_greatestDivisor_41 : decode cX6_greatestDivisor 41 = .ok (.goto (-32), 3) := by decide +kernel
theorem dX6_greatestDivisor_44 : decode cX6_greatestDivisor 44 = .ok (.lload 4, 2) := by decide +kernel
theorem dX6_greatestDivisor_46 : decode cX6_greatestDivisor 46 = .ok (.lreturn, 1) := by decide +kernel
set_option maxRecDepth 20000 in
theorem ggX6_table_X0_present : GoodIn wsX6_table wsX0_present := goodIn_r _ [6, 7, 21, 22, 23] (by decide +kernel) (by decide +kernel)
set_option maxRecDepth 20000 in
theorem gX6_table_X0_present : GoodIn wsX6_table (wsV RX6 181 RX0 yX0_present wsX0_present) := goodIn_app (goodIn_of _ (by decide +kernel)) ggX6_table_X0_present
set_option maxRecDepth 20000 in
theorem ggX6_table_X1_tableNow : GoodIn wsX6_table wsX1_tableNow := goodIn_r _ [12, 13, 24, 25, 26] (by decide +kernel) (by decide +kernel)
set_option maxRecDepth 20000 in
theorem gX6_table_X1_tableNow : GoodIn wsX6_table (wsV RX6 254 RX1 yX1_tableNow wsX1_tableNow) := goodIn_app (goodIn_of _ (by decide +kernel)) ggX6_table_X1_tableNow
theorem dX6_table_0 : decode cX6_table 0 = .ok (.aload_n 0, 1) := by decide +kernel
theorem dX6_table_1 : decode cX6_table 1 = .ok (.getfield 10, 3) := by decide +kernel
theorem dX6_table_4 : decode cX6_table 4 = .ok (.invokevirtual 181, 3) := by decide +kernel
theorem dX6_table_7 : decode cX6_table 7 = .ok (.invokevirtual 254, 3) := by decide +kernel
theorem dX6_table_10 : decode cX6_table 10 = .ok (.areturn, 1) := by decide +kernel
set_option maxRecDepth 20000 in
theorem ggX6_installed_X0_present : GoodIn wsX6_installed wsX0_present := goodIn_r _ [6, 7, 21, 22, 23] (by decide +kernel) (by decide +kernel)
set_option maxRecDepth 20000 in
theorem gX6_installed_X0_present : GoodIn wsX6_installed (wsV RX6 181 RX0 yX0_present wsX0_present) := goodIn_app (goodIn_of _ (by decide +kernel)) ggX6_installed_X0_present
set_option maxRecDepth 20000 in
theorem ggX6_installed_X1_installedNow : GoodIn wsX6_installed wsX1_installedNow := goodIn_r _ [12, 13, 24, 25, 26] (by decide +kernel) (by decide +kernel)
set_option maxRecDepth 20000 in
theorem gX6_installed_X1_installedNow : GoodIn wsX6_installed (wsV RX6 257 RX1 yX1_installedNow wsX1_installedNow) := goodIn_app (goodIn_of _ (by decide +kernel)) ggX6_installed_X1_installedNow
theorem dX6_installed_0 : decode cX6_installed 0 = .ok (.aload_n 0, 1) := by decide +kernel
theorem dX6_installed_1 : decode cX6_installed 1 = .ok (.getfield 10, 3) := by decide +kernel
theorem dX6_installed_4 : decode cX6_installed 4 = .ok (.invokevirtual 181, 3) := by decide +kernel
theorem dX6_installed_7 : decode cX6_installed 7 = .ok (.invokevirtual 257, 3) := by decide +kernel
theorem dX6_installed_10 : decode cX6_installed 10 = .ok (.areturn, 1) := by decide +kernel
set_option maxRecDepth 20000 in
theorem ggX6_freshView_X6_table : GoodIn wsX6_freshView wsX6_table := goodIn_r _ [7, 8, 9, 10, 11, 12, 13, 14, 15, 16, 17, 18, 19, 20, 105, 106, 107, 108, 109, 110, 111, 112, 113, 114, 115, 116, 117] (by decide +kernel) (by decide +kernel)
set_option maxRecDepth 20000 in
theorem gX6_freshView_X6_table : GoodIn wsX6_freshView (wsV RX6 51 RX6 yX6_table wsX6_table) := goodIn_app (goodIn_of _ (by decide +kernel)) ggX6_freshView_X6_table
set_option maxRecDepth 20000 in
theorem ggX6_freshView_X6_installed : GoodIn wsX6_freshView wsX6_installed := goodIn_r _ [24, 8, 9, 10, 11, 12, 13, 14, 25, 26, 27, 18, 28, 29, 105, 106, 107, 108, 109, 110, 111, 112, 113, 114, 115, 116, 117] (by decide +kernel) (by decide +kernel)
set_option maxRecDepth 20000 in
theorem gX6_freshView_X6_installed : GoodIn wsX6_freshView (wsV RX6 64 RX6 yX6_installed wsX6_installed) := goodIn_app (goodIn_of _ (by decide +kernel)) ggX6_freshView_X6_installed
set_option maxRecDepth 20000 in
theorem ggX6_freshView_X5_make : GoodIn wsX6_freshView wsX5_make := goodIn_r _ [34, 35, 36, 37, 38, 39, 40, 41, 42, 43, 44, 45, 46, 47, 48, 49, 50, 33, 51, 52, 53, 54, 55, 56, 57, 58, 59, 60, 61, 62, 63, 64, 65, 66, 67, 68, 69, 70, 71, 72, 73, 74, 75, 76, 77, 78, 79, 80, 81, 82, 83, 6, 84, 85, 86, 87, 88, 89, 90, 91, 92, 93, 94, 95, 96, 97, 98, 99, 100, 101, 102, 103, 104, 118, 119, 120, 121, 122, 123, 124, 125, 126] (by decide +kernel) (by decide +kernel)
set_option maxRecDepth 20000 in
theorem gX6_freshView_X5_make : GoodIn wsX6_freshView (wsV RX6 260 RX5 yX5_make wsX5_make) := goodIn_app (goodIn_of _ (by decide +kernel)) ggX6_freshView_X5_make
theorem dX6_freshView_0 : decode cX6_freshView 0 = .ok (.aload_n 0, 1) := by decide +kernel
theorem dX6_freshView_1 : decode cX6_freshView 1 = .ok (.getfield 43, 3) := by decide +kernel
theorem dX6_freshView_4 : decode cX6_freshView 4 = .ok (.ifCond .eq 23, 3) := by decide +kernel
theorem dX6_freshView_7 : decode cX6_freshView 7 = .ok (.aload_n 0, 1) := by decide +kernel
theorem dX6_freshView_8 : decode cX6_freshView 8 = .ok (.getfield 22, 3) := by decide +kernel
theorem dX6_freshView_11 : decode cX6_freshView 11 = .ok (.aload_n 0, 1) := by decide +kernel
theorem dX6_freshView_12 : decode cX6_freshView 12 = .ok (.invokevirtual 51, 3) := by decide +kernel
theorem dX6_freshView_15 : decode cX6_freshView 15 = .ok (.aload_n 0, 1) := by decide +kernel
theorem dX6_freshView_16 : decode cX6_freshView 16 = .ok (.invokevirtual 64, 3) := by decide +kernel
theorem dX6_freshView_19 : decode cX6_freshView 19 = .ok (.invokevirtual 260, 3) := by decide +kernel
theorem dX6_freshView_22 : decode cX6_freshView 22 = .ok (.aload_n 0, 1) := by decide +kernel
theorem dX6_freshView_23 : decode cX6_freshView 23 = .ok (.iconst 0, 1) := by decide +kernel
theorem dX6_freshView_24 : decode cX6_freshView 24 = .ok (.putfield 43, 3) := by decide +kernel
theorem dX6_freshView_27 : decode cX6_freshView 27 = .ok (.aload_n 0, 1) := by decide +kernel
theorem dX6_freshView_28 : decode cX6_freshView 28 = .ok (.getfield 22, 3) := by decide +kernel
theorem dX6_freshView_31 : decode cX6_freshView 31 = .ok (.areturn, 1) := by decide +kernel
set_option maxRecDepth 20000 in
theorem ggX6_beginStep_X0_remember : GoodIn wsX6_beginStep wsX0_remember := goodIn_r _ [7, 8, 9, 10, 11, 12, 13, 6, 14, 15, 16, 17, 18, 19, 20, 21, 22, 23, 24, 25, 26, 27, 28, 29, 30, 31, 32, 33, 41, 42, 43, 44, 45, 46, 47, 48] (by decide +kernel) (by decide +kernel)
set_option maxRecDepth 20000 in
theorem gX6_beginStep_X0_remember : GoodIn wsX6_beginStep (wsV RX6 264 RX0 yX0_remember wsX0_remember) := goodIn_app (goodIn_of _ (by decide +kernel)) ggX6_beginStep_X0_remember
theorem dX6_beginStep_0 : decode cX6_beginStep 0 = .ok (.aload_n 0, 1) := by decide +kernel
theorem dX6_beginStep_1 : decode cX6_beginStep 1 = .ok (.getfield 10, 3) := by decide +kernel
theorem dX6_beginStep_4 : decode cX6_beginStep 4 = .ok (.invokevirtual 264, 3) := by decide +kernel
theorem dX6_beginStep_7 : decode cX6_beginStep 7 = .ok (.aload_n 0, 1) := by decide +kernel
theorem dX6_beginStep_8 : decode cX6_beginStep 8 = .ok (.iconst 1, 1) := by decide +kernel
theorem dX6_beginStep_9 : decode cX6_beginStep 9 = .ok (.putfield 43, 3) := by decide +kernel
theorem dX6_beginStep_12 : decode cX6_beginStep 12 = .ok (.return_, 1) := by decide +kernel
set_option maxRecDepth 20000 in
theorem ggX6_takeTurn_X0_present : GoodIn wsX6_takeTurn wsX0_present := goodIn_r _ [6, 7, 63, 64, 65] (by decide +kernel) (by decide +kernel)
set_option maxRecDepth 20000 in
theorem gX6_takeTurn_X0_present : GoodIn wsX6_takeTurn (wsV RX6 181 RX0 yX0_present wsX0_present) := goodIn_app (goodIn_of _ (by decide +kernel)) ggX6_takeTurn_X0_present
set_option maxRecDepth 20000 in
theorem ggX6_takeTurn_X1_nextDraw : GoodIn wsX6_takeTurn wsX1_nextDraw := goodIn_r _ [12, 13, 14, 15, 66, 67, 68] (by decide +kernel) (by decide +kernel)
set_option maxRecDepth 20000 in
theorem gX6_takeTurn_X1_nextDraw : GoodIn wsX6_takeTurn (wsV RX6 267 RX1 yX1_nextDraw wsX1_nextDraw) := goodIn_app (goodIn_of _ (by decide +kernel)) ggX6_takeTurn_X1_nextDraw
set_option maxRecDepth 20000 in
theorem ggX6_takeTurn_X6_table : GoodIn wsX6_takeTurn wsX6_table := goodIn_r _ [20, 1, 2, 3, 4, 5, 6, 7, 21, 22, 23, 11, 24, 25, 56, 57, 58, 59, 60, 61, 62, 63, 64, 65, 66, 67, 68] (by decide +kernel) (by decide +kernel)
set_option maxRecDepth 20000 in
theorem gX6_takeTurn_X6_table : GoodIn wsX6_takeTurn (wsV RX6 51 RX6 yX6_table wsX6_table) := goodIn_app (goodIn_of _ (by decide +kernel)) ggX6_takeTurn_X6_table
set_option maxRecDepth 20000 in
theorem ggX6_takeTurn_X3_hopAt : GoodIn wsX6_takeTurn wsX3_hopAt := goodIn_r _ [30, 31, 69, 70] (by decide +kernel) (by decide +kernel)
set_option maxRecDepth 20000 in
theorem gX6_takeTurn_X3_hopAt : GoodIn wsX6_takeTurn (wsV RX6 77 RX3 yX3_hopAt wsX3_hopAt) := goodIn_app (goodIn_of _ (by decide +kernel)) ggX6_takeTurn_X3_hopAt
set_option maxRecDepth 20000 in
theorem ggX6_takeTurn_X3_takeOut : GoodIn wsX6_takeTurn wsX3_takeOut := goodIn_r _ [35, 36, 37, 27, 28, 29, 30, 31, 38, 39, 40, 41, 42, 43, 69, 70] (by decide +kernel) (by decide +kernel)
set_option maxRecDepth 20000 in
theorem gX6_takeTurn_X3_takeOut : GoodIn wsX6_takeTurn (wsV RX6 149 RX3 yX3_takeOut wsX3_takeOut) := goodIn_app (goodIn_of _ (by decide +kernel)) ggX6_takeTurn_X3_takeOut
set_option maxRecDepth 20000 in
theorem ggX6_takeTurn_X3_howMany : GoodIn wsX6_takeTurn wsX3_howMany := goodIn_r _ [47, 36, 69, 70] (by decide +kernel) (by decide +kernel)
set_option maxRecDepth 20000 in
theorem gX6_takeTurn_X3_howMany : GoodIn wsX6_takeTurn (wsV RX6 102 RX3 yX3_howMany wsX3_howMany) := goodIn_app (goodIn_of _ (by decide +kernel)) ggX6_takeTurn_X3_howMany
set_option maxRecDepth 20000 in
theorem ggX6_takeTurn_X3_put : GoodIn wsX6_takeTurn wsX3_put := goodIn_r _ [51, 36, 52, 19, 53, 54, 55, 37, 27, 28, 29, 30, 31, 38, 39, 40, 41, 42, 43, 69, 70] (by decide +kernel) (by decide +kernel)
set_option maxRecDepth 20000 in
theorem gX6_takeTurn_X3_put : GoodIn wsX6_takeTurn (wsV RX6 145 RX3 yX3_put wsX3_put) := goodIn_app (goodIn_of _ (by decide +kernel)) ggX6_takeTurn_X3_put
theorem dX6_takeTurn_0 : decode cX6_takeTurn 0 = .ok (.aload_n 0, 1) := by decide +kernel
theorem dX6_takeTurn_1 : decode cX6_takeTurn 1 = .ok (.getfield 10, 3) := by decide +kernel
theorem dX6_takeTurn_4 : decode cX6_takeTurn 4 = .ok (.invokevirtual 181, 3) := by decide +kernel
theorem dX6_takeTurn_7 : decode cX6_takeTurn 7 = .ok (.invokevirtual 267, 3) := by decide +kernel
theorem dX6_takeTurn_10 : decode cX6_takeTurn 10 = .ok (.bipush 16, 2) := by decide +kernel
theorem dX6_takeTurn_12 : decode cX6_takeTurn 12 = .ok (.ishr, 1) := by decide +kernel
theorem dX6_takeTurn_13 : decode cX6_takeTurn 13 = .ok (.istore_n 1, 1) := by decide +kernel
theorem dX6_takeTurn_14 : decode cX6_takeTurn 14 = .ok (.iload_n 1, 1) := by decide +kernel
theorem dX6_takeTurn_15 : decode cX6_takeTurn 15 = .ok (.bipush 9, 2) := by decide +kernel
theorem dX6_takeTurn_17 : decode cX6_takeTurn 17 = .ok (.irem, 1) := by decide +kernel
theorem dX6_takeTurn_18 : decode cX6_takeTurn 18 = .ok (.istore_n 2, 1) := by decide +kernel
theorem dX6_takeTurn_19 : decode cX6_takeTurn 19 = .ok (.iconst 1, 1) := by decide +kernel
theorem dX6_takeTurn_20 : decode cX6_takeTurn 20 = .ok (.iload_n 2, 1) := by decide +kernel
theorem dX6_takeTurn_21 : decode cX6_takeTurn 21 = .ok (.ishl, 1) := by decide +kernel
theorem dX6_takeTurn_22 : decode cX6_takeTurn 22 = .ok (.iload_n 1, 1) := by decide +kernel
theorem dX6_takeTurn_23 : decode cX6_takeTurn 23 = .ok (.iconst 4, 1) := by decide +kernel
theorem dX6_takeTurn_24 : decode cX6_takeTurn 24 = .ok (.ishr, 1) := by decide +kernel
theorem dX6_takeTurn_25 : decode cX6_takeTurn 25 = .ok (.iconst 1, 1) := by decide +kernel
theorem dX6_takeTurn_26 : decode cX6_takeTurn 26 = .ok (.iload_n 2, 1) := by decide +kernel
theorem dX6_takeTurn_27 : decode cX6_takeTurn 27 = .ok (.ishl, 1) := by decide +kernel
theorem dX6_takeTurn_28 : decode cX6_takeTurn 28 = .ok (.iconst 1, 1) := by decide +kernel
theorem dX6_takeTurn_29 : decode cX6_takeTurn 29 = .ok (.isub, 1) := by decide +kernel
theorem dX6_takeTurn_30 : decode cX6_takeTurn 30 = .ok (.iand, 1) := by decide +kernel
theorem dX6_takeTurn_31 : decode cX6_takeTurn 31 = .ok (.ior, 1) := by decide +kernel
theorem dX6_takeTurn_32 : decode cX6_takeTurn 32 = .ok (.istore_n 3, 1) := by decide +kernel
theorem dX6_takeTurn_33 : decode cX6_takeTurn 33 = .ok (.iload_n 1, 1) := by decide +kernel
theorem dX6_takeTurn_34 : decode cX6_takeTurn 34 = .ok (.bipush 12, 2) := by decide +kernel
theorem dX6_takeTurn_36 : decode cX6_takeTurn 36 = .ok (.ishr, 1) := by decide +kernel
theorem dX6_takeTurn_37 : decode cX6_takeTurn 37 = .ok (.istore 4, 2) := by decide +kernel
theorem dX6_takeTurn_39 : decode cX6_takeTurn 39 = .ok (.aload_n 0, 1) := by decide +kernel
theorem dX6_takeTurn_40 : decode cX6_takeTurn 40 = .ok (.invokevirtual 51, 3) := by decide +kernel
theorem dX6_takeTurn_43 : decode cX6_takeTurn 43 = .ok (.iload_n 3, 1) := by decide +kernel
theorem dX6_takeTurn_44 : decode cX6_takeTurn 44 = .ok (.invokevirtual 77, 3) := by decide +kernel
theorem dX6_takeTurn_47 : decode cX6_takeTurn 47 = .ok (.istore 5, 2) := by decide +kernel
theorem dX6_takeTurn_49 : decode cX6_takeTurn 49 = .ok (.iload 5, 2) := by decide +kernel
theorem dX6_takeTurn_51 : decode cX6_takeTurn 51 = .ok (.iload 4, 2) := by decide +kernel
theorem dX6_takeTurn_53 : decode cX6_takeTurn 53 = .ok (.if_icmp .ne 14, 3) := by decide +kernel
theorem dX6_takeTurn_56 : decode cX6_takeTurn 56 = .ok (.aload_n 0, 1) := by decide +kernel
theorem dX6_takeTurn_57 : decode cX6_takeTurn 57 = .ok (.invokevirtual 51, 3) := by decide +kernel
theorem dX6_takeTurn_60 : decode cX6_takeTurn 60 = .ok (.iload_n 3, 1) := by decide +kernel
theorem dX6_takeTurn_61 : decode cX6_takeTurn 61 = .ok (.invokevirtual 149, 3) := by decide +kernel
theorem dX6_takeTurn_64 : decode cX6_takeTurn 64 = .ok (.goto 32, 3) := by decide +kernel
theorem dX6_takeTurn_67 : decode cX6_takeTurn 67 = .ok (.iload 5, 2) := by decide +kernel
theorem dX6_takeTurn_69 : decode cX6_takeTurn 69 = .ok (.bipush (-4), 2) := by decide +kernel
theorem dX6_takeTurn_71 : decode cX6_takeTurn 71 = .ok (.if_icmp .ne 15, 3) := by decide +kernel
theorem dX6_takeTurn_74 : decode cX6_takeTurn 74 = .ok (.aload_n 0, 1) := by decide +kernel
theorem dX6_takeTurn_75 : decode cX6_takeTurn 75 = .ok (.invokevirtual 51, 3) := by decide +kernel
theorem dX6_takeTurn_78 : decode cX6_takeTurn 78 = .ok (.invokevirtual 102, 3) := by decide +kernel
theorem dX6_takeTurn_81 : decode cX6_takeTurn 81 = .ok (.bipush 40, 2) := by decide +kernel
theorem dX6_takeTurn_83 : decode cX6_takeTurn 83 = .ok (.if_icmp .ge 13, 3) := by decide +kernel
theorem dX6_takeTurn_86 : decode cX6_takeTurn 86 = .ok (.aload_n 0, 1) := by decide +kernel
theorem dX6_takeTurn_87 : decode cX6_takeTurn 87 = .ok (.invokevirtual 51, 3) := by decide +kernel
theorem dX6_takeTurn_90 : decode cX6_takeTurn 90 = .ok (.iload_n 3, 1) := by decide +kernel
theorem dX6_takeTurn_91 : decode cX6_takeTurn 91 = .ok (.iload 4, 2) := by decide +kernel
theorem dX6_takeTurn_93 : decode cX6_takeTurn 93 = .ok (.invokevirtual 145, 3) := by decide +kernel
theorem dX6_takeTurn_96 : decode cX6_takeTurn 96 = .ok (.return_, 1) := by decide +kernel
