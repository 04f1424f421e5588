set_option maxRecDepth 20000 in
theorem ggX0_init_X1_init : GoodIn wsX0_init wsX1_init := goodIn_r _ [11, 12, 2, 3, 13, 14, 15, 16, 17, 18, 19, 20, 21, 22, 23, 24, 31, 32, 25, 26, 27] (by decide +kernel) (by decide +kernel)
set_option maxRecDepth 20000 in
theorem gX0_init_X1_init_n11 : GoodIn wsX0_init (wsX1_init) := ggX0_init_X1_init
theorem dX0_init_0 : decode cX0_init 0 = .ok (.aload_n 0, 1) := by decide +kernel
theorem dX0_init_1 : decode cX0_init 1 = .ok (.invokespecial 3, 3) := by decide +kernel
theorem dX0_init_4 : decode cX0_init 4 = .ok (.aload_n 0, 1) := by decide +kernel
theorem dX0_init_5 : decode cX0_init 5 = .ok (.new 9, 3) := by decide +kernel
theorem dX0_init_8 : decode cX0_init 8 = .ok (.dup, 1) := by decide +kernel
theorem dX0_init_9 : decode cX0_init 9 = .ok (.invokespecial 11, 3) := by decide +kernel
theorem dX0_init_12 : decode cX0_init 12 = .ok (.putfield 12, 3) := by decide +kernel
theorem dX0_init_15 : decode cX0_init 15 = .ok (.aload_n 0, 1) := by decide +kernel
theorem dX0_init_16 : decode cX0_init 16 = .ok (.bipush 6, 2) := by decide +kernel
theorem dX0_init_18 : decode cX0_init 18 = .ok (.anewarray 9, 3) := by decide +kernel
theorem dX0_init_21 : decode cX0_init 21 = .ok (.putfield 18, 3) := by decide +kernel
theorem dX0_init_24 : decode cX0_init 24 = .ok (.aload_n 0, 1) := by decide +kernel
theorem dX0_init_25 : decode cX0_init 25 = .ok (.iconst 0, 1) := by decide +kernel
theorem dX0_init_26 : decode cX0_init 26 = .ok (.putfield 22, 3) := by decide +kernel
theorem dX0_init_29 : decode cX0_init 29 = .ok (.iconst 0, 1) := by decide +kernel
theorem dX0_init_30 : decode cX0_init 30 = .ok (.istore_n 1, 1) := by decide +kernel
theorem dX0_init_31 : decode cX0_init 31 = .ok (.iload_n 1, 1) := by decide +kernel
theorem dX0_init_32 : decode cX0_init 32 = .ok (.bipush 6, 2) := by decide +kernel
theorem dX0_init_34 : decode cX0_init 34 = .ok (.if_icmp .ge 22, 3) := by decide +kernel
theorem dX0_init_37 : decode cX0_init 37 = .ok (.aload_n 0, 1) := by decide +kernel
theorem dX0_init_38 : decode cX0_init 38 = .ok (.getfield 18, 3) := by decide +kernel
theorem dX0_init_41 : decode cX0_init 41 = .ok (.iload_n 1, 1) := by decide +kernel
theorem dX0_init_42 : decode cX0_init 42 = .ok (.new 9, 3) := by decide +kernel
theorem dX0_init_45 : decode cX0_init 45 = .ok (.dup, 1) := by decide +kernel
theorem dX0_init_46 : decode cX0_init 46 = .ok (.invokespecial 11, 3) := by decide +kernel
theorem dX0_init_49 : decode cX0_init 49 = .ok (.aastore, 1) := by decide +kernel
theorem dX0_init_50 : decode cX0_init 50 = .ok (.iinc 1 1, 3) := by decide +kernel
theorem dX0_init_53 : decode cX0_init 53 = .ok (.goto (-22), 3) := by decide +kernel
theorem dX0_init_56 : decode cX0_init 56 = .ok (.return_, 1) := by decide +kernel
theorem dX0_present_0 : decode cX0_present 0 = .ok (.aload_n 0, 1) := by decide +kernel
theorem dX0_present_1 : decode cX0_present 1 = .ok (.getfield 12, 3) := by decide +kernel
theorem dX0_present_4 : decode cX0_present 4 = .ok (.areturn, 1) := by decide +kernel
theorem dX0_howManyKnown_0 : decode cX0_howManyKnown 0 = .ok (.aload_n 0, 1) := by decide +kernel
theorem dX0_howManyKnown_1 : decode cX0_howManyKnown 1 = .ok (.getfield 22, 3) := by decide +kernel
theorem dX0_howManyKnown_4 : decode cX0_howManyKnown 4 = .ok (.ireturn, 1) := by decide +kernel
set_option maxRecDepth 20000 in
theorem ggX0_remember_X0_loseOldest : GoodIn wsX0_remember wsX0_loseOldest := goodIn_r _ [8, 2, 1, 28, 29, 30] (by decide +kernel) (by decide +kernel)
set_option maxRecDepth 20000 in
theorem gX0_remember_X0_loseOldest : GoodIn wsX0_remember (wsV RX0 26 RX0 yX0_loseOldest wsX0_loseOldest) := goodIn_app (goodIn_of _ (by decide +kernel)) ggX0_remember_X0_loseOldest
set_option maxRecDepth 20000 in
theorem ggX0_remember_X1_takeFrom : GoodIn wsX0_remember wsX1_takeFrom := goodIn_r _ [13, 14, 15, 16, 17, 18, 19, 20, 21, 22, 23, 24, 25, 26, 27, 31, 32, 33, 34, 35] (by decide +kernel) (by decide +kernel)
set_option maxRecDepth 20000 in
theorem gX0_remember_X1_takeFrom : GoodIn wsX0_remember (wsV RX0 29 RX1 yX1_takeFrom wsX1_takeFrom) := goodIn_app (goodIn_of _ (by decide +kernel)) ggX0_remember_X1_takeFrom
theorem dX0_remember_0 : decode cX0_remember 0 = .ok (.aload_n 0, 1) := by decide +kernel
theorem dX0_remember_1 : decode cX0_remember 1 = .ok (.getfield 22, 3) := by decide +kernel
theorem dX0_remember_4 : decode cX0_remember 4 = .ok (.bipush 6, 2) := by decide +kernel
theorem dX0_remember_6 : decode cX0_remember 6 = .ok (.if_icmp .ne 7, 3) := by decide +kernel
theorem dX0_remember_9 : decode cX0_remember 9 = .ok (.aload_n 0, 1) := by decide +kernel
theorem dX0_remember_10 : decode cX0_remember 10 = .ok (.invokevirtual 26, 3) := by decide +kernel
theorem dX0_remember_13 : decode cX0_remember 13 = .ok (.aload_n 0, 1) := by decide +kernel
theorem dX0_remember_14 : decode cX0_remember 14 = .ok (.getfield 18, 3) := by decide +kernel
theorem dX0_remember_17 : decode cX0_remember 17 = .ok (.aload_n 0, 1) := by decide +kernel
theorem dX0_remember_18 : decode cX0_remember 18 = .ok (.getfield 22, 3) := by decide +kernel
theorem dX0_remember_21 : decode cX0_remember 21 = .ok (.aaload, 1) := by decide +kernel
theorem dX0_remember_22 : decode cX0_remember 22 = .ok (.aload_n 0, 1) := by decide +kernel
theorem dX0_remember_23 : decode cX0_remember 23 = .ok (.getfield 12, 3) := by decide +kernel
theorem dX0_remember_26 : decode cX0_remember 26 = .ok (.invokevirtual 29, 3) := by decide +kernel
theorem dX0_remember_29 : decode cX0_remember 29 = .ok (.aload_n 0, 1) := by decide +kernel
theorem dX0_remember_30 : decode cX0_remember 30 = .ok (.dup, 1) := by decide +kernel
theorem dX0_remember_31 : decode cX0_remember 31 = .ok (.getfield 22, 3) := by decide +kernel
theorem dX0_remember_34 : decode cX0_remember 34 = .ok (.iconst 1, 1) := by decide +kernel
theorem dX0_remember_35 : decode cX0_remember 35 = .ok (.iadd, 1) := by decide +kernel
theorem dX0_remember_36 : decode cX0_remember 36 = .ok (.putfield 22, 3) := by decide +kernel
theorem dX0_remember_39 : decode cX0_remember 39 = .ok (.return_, 1) := by decide +kernel
set_option maxRecDepth 20000 in
theorem ggX0_goBack_X1_takeFrom : GoodIn wsX0_goBack wsX1_takeFrom := goodIn_r _ [8, 9, 10, 11, 12, 13, 14, 15, 16, 17, 18, 19, 20, 21, 22, 26, 27, 28, 29, 30] (by decide +kernel) (by decide +kernel)
set_option maxRecDepth 20000 in
theorem gX0_goBack_X1_takeFrom : GoodIn wsX0_goBack (wsV RX0 29 RX1 yX1_takeFrom wsX1_takeFrom) := goodIn_app (goodIn_of _ (by decide +kernel)) ggX0_goBack_X1_takeFrom
theorem dX0_goBack_0 : decode cX0_goBack 0 = .ok (.aload_n 0, 1) := by decide +kernel
theorem dX0_goBack_1 : decode cX0_goBack 1 = .ok (.getfield 22, 3) := by decide +kernel
theorem dX0_goBack_4 : decode cX0_goBack 4 = .ok (.ifCond .le 29, 3) := by decide +kernel
theorem dX0_goBack_7 : decode cX0_goBack 7 = .ok (.aload_n 0, 1) := by decide +kernel
theorem dX0_goBack_8 : decode cX0_goBack 8 = .ok (.dup, 1) := by decide +kernel
theorem dX0_goBack_9 : decode cX0_goBack 9 = .ok (.getfield 22, 3) := by decide +kernel
theorem dX0_goBack_12 : decode cX0_goBack 12 = .ok (.iconst 1, 1) := by decide +kernel
theorem dX0_goBack_13 : decode cX0_goBack 13 = .ok (.isub, 1) := by decide +kernel
theorem dX0_goBack_14 : decode cX0_goBack 14 = .ok (.putfield 22, 3) := by decide +kernel
theorem dX0_goBack_17 : decode cX0_goBack 17 = .ok (.aload_n 0, 1) := by decide +kernel
theorem dX0_goBack_18 : decode cX0_goBack 18 = .ok (.getfield 12, 3) := by decide +kernel
theorem dX0_goBack_21 : decode cX0_goBack 21 = .ok (.aload_n 0, 1) := by decide +kernel
theorem dX0_goBack_22 : decode cX0_goBack 22 = .ok (.getfield 18, 3) := by decide +kernel
theorem dX0_goBack_25 : decode cX0_goBack 25 = .ok (.aload_n 0, 1) := by decide +kernel
theorem dX0_goBack_26 : decode cX0_goBack 26 = .ok (.getfield 22, 3) := by decide +kernel
theorem dX0_goBack_29 : decode cX0_goBack 29 = .ok (.aaload, 1) := by decide +kernel
theorem dX0_goBack_30 : decode cX0_goBack 30 = .ok (.invokevirtual 29, 3) := by decide +kernel
theorem dX0_goBack_33 : decode cX0_goBack 33 = .ok (.return_, 1) := by decide +kernel
set_option maxRecDepth 20000 in
theorem ggX0_takeAllFrom_X1_takeFrom : GoodIn wsX0_takeAllFrom wsX1_takeFrom := goodIn_r _ [8, 9, 10, 11, 12, 13, 14, 15, 16, 17, 18, 19, 20, 21, 22, 26, 27, 28, 29, 30] (by decide +kernel) (by decide +kernel)
set_option maxRecDepth 20000 in
theorem gX0_takeAllFrom_X1_takeFrom : GoodIn wsX0_takeAllFrom (wsV RX0 29 RX1 yX1_takeFrom wsX1_takeFrom) := goodIn_app (goodIn_of _ (by decide +kernel)) ggX0_takeAllFrom_X1_takeFrom
theorem dX0_takeAllFrom_0 : decode cX0_takeAllFrom 0 = .ok (.aload_n 0, 1) := by decide +kernel
theorem dX0_takeAllFrom_1 : decode cX0_takeAllFrom 1 = .ok (.getfield 12, 3) := by decide +kernel
theorem dX0_takeAllFrom_4 : decode cX0_takeAllFrom 4 = .ok (.aload_n 1, 1) := by decide +kernel
theorem dX0_takeAllFrom_5 : decode cX0_takeAllFrom 5 = .ok (.getfield 12, 3) := by decide +kernel
theorem dX0_takeAllFrom_8 : decode cX0_takeAllFrom 8 = .ok (.invokevirtual 29, 3) := by decide +kernel
theorem dX0_takeAllFrom_11 : decode cX0_takeAllFrom 11 = .ok (.iconst 0, 1) := by decide +kernel
theorem dX0_takeAllFrom_12 : decode cX0_takeAllFrom 12 = .ok (.istore_n 2, 1) := by decide +kernel
theorem dX0_takeAllFrom_13 : decode cX0_takeAllFrom 13 = .ok (.iload_n 2, 1) := by decide +kernel
theorem dX0_takeAllFrom_14 : decode cX0_takeAllFrom 14 = .ok (.bipush 6, 2) := by decide +kernel
theorem dX0_takeAllFrom_16 : decode cX0_takeAllFrom 16 = .ok (.if_icmp .ge 24, 3) := by decide +kernel
theorem dX0_takeAllFrom_19 : decode cX0_takeAllFrom 19 = .ok (.aload_n 0, 1) := by decide +kernel
theorem dX0_takeAllFrom_20 : decode cX0_takeAllFrom 20 = .ok (.getfield 18, 3) := by decide +kernel
theorem dX0_takeAllFrom_23 : decode cX0_takeAllFrom 23 = .ok (.iload_n 2, 1) := by decide +kernel
theorem dX0_takeAllFrom_24 : decode cX0_takeAllFrom 24 = .ok (.aaload, 1) := by decide +kernel
theorem dX0_takeAllFrom_25 : decode cX0_takeAllFrom 25 = .ok (.aload_n 1, 1) := by decide +kernel
theorem dX0_takeAllFrom_26 : decode cX0_takeAllFrom 26 = .ok (.getfield 18, 3) := by decide +kernel
theorem dX0_takeAllFrom_29 : decode cX0_takeAllFrom 29 = .ok (.iload_n 2, 1) := by decide +kernel
theorem dX0_takeAllFrom_30 : decode cX0_takeAllFrom 30 = .ok (.aaload, 1) := by decide +kernel
theorem dX0_takeAllFrom_31 : decode cX0_takeAllFrom 31 = .ok (.invokevirtual 29, 3) := by decide +kernel
theorem dX0_takeAllFrom_34 : decode cX0_takeAllFrom 34 = .ok (.iinc 2 1, 3) := by decide +kernel
theorem dX0_takeAllFrom_37 : decode cX0_takeAllFrom 37 = .ok (.goto (-24), 3) := by decide +kernel
theorem dX0_takeAllFrom_40 : decode cX0_takeAllFrom 40 = .ok (.aload_n 0, 1) := by decide +kernel
theorem dX0_takeAllFrom_41 : decode cX0_takeAllFrom 41 = .ok (.aload_n 1, 1) := by decide +kernel
theorem dX0_takeAllFrom_42 : decode cX0_takeAllFrom 42 = .ok (.getfield 22, 3) := by decide +kernel
theorem dX0_takeAllFrom_45 : decode cX0_takeAllFrom 45 = .ok (.putfield 22, 3) := by decide +kernel
theorem dX0_takeAllFrom_48 : decode cX0_takeAllFrom 48 = .ok (.return_, 1) := by decide +kernel
theorem dX0_loseOldest_0 : decode cX0_loseOldest 0 = .ok (.aload_n 0, 1) := by decide +kernel
theorem dX0_loseOldest_1 : decode cX0_loseOldest 1 = .ok (.getfield 18, 3) := by decide +kernel
theorem dX0_loseOldest_4 : decode cX0_loseOldest 4 = .ok (.iconst 0, 1) := by decide +kernel
theorem dX0_loseOldest_5 : decode cX0_loseOldest 5 = .ok (.aaload, 1) := by decide +kernel
theorem dX0_loseOldest_6 : decode cX0_loseOldest 6 = .ok (.astore_n 1, 1) := by decide +kernel
theorem dX0_loseOldest_7 : decode cX0_loseOldest 7 = .ok (.iconst 1, 1) := by decide +kernel
theorem dX0_loseOldest_8 : decode cX0_loseOldest 8 = .ok (.istore_n 2, 1) := by decide +kernel
theorem dX0_loseOldest_9 : decode cX0_loseOldest 9 = .ok (.iload_n 2, 1) := by decide +kernel
theorem dX0_loseOldest_10 : decode cX0_loseOldest 10 = .ok (.bipush 6, 2) := by decide +kernel
theorem dX0_loseOldest_12 : decode cX0_loseOldest 12 = .ok (.if_icmp .ge 23, 3) := by decide +kernel
theorem dX0_loseOldest_15 : decode cX0_loseOldest 15 = .ok (.aload_n 0, 1) := by decide +kernel
theorem dX0_loseOldest_16 : decode cX0_loseOldest 16 = .ok (.getfield 18, 3) := by decide +kernel
theorem dX0_loseOldest_19 : decode cX0_loseOldest 19 = .ok (.iload_n 2, 1) := by decide +kernel
theorem dX0_loseOldest_20 : decode cX0_loseOldest 20 = .ok (.iconst 1, 1) := by decide +kernel
theorem dX0_loseOldest_21 : decode cX0_loseOldest 21 = .ok (.isub, 1) := by decide +kernel
theorem dX0_loseOldest_22 : decode cX0_loseOldest 22 = .ok (.aload_n 0, 1) := by decide +kernel
theorem dX0_loseOldest_23 : decode cX0_loseOldest 23 = .ok (.getfield 18, 3) := by decide +kernel
theorem dX0_loseOldest_26 : decode cX0_loseOldest 26 = .ok (.iload_n 2, 1) := by decide +kernel
theorem dX0_loseOldest_27 : decode cX0_loseOldest 27 = .ok (.aaload, 1) := by decide +kernel
theorem dX0_loseOldest_28 : decode cX0_loseOldest 28 = .ok (.aastore, 1) := by decide +kernel
theorem dX0_loseOldest_29 : decode cX0_loseOldest 29 = .ok (.iinc 2 1, 3) := by decide +kernel
theorem dX0_loseOldest_32 : decode cX0_loseOldest 32 = .ok (.goto (-23), 3) := by decide +kernel
theorem dX0_loseOldest_35 : decode cX0_loseOldest 35 = .ok (.aload_n 0, 1) := by decide +kernel
theorem dX0_loseOldest_36 : decode cX0_loseOldest 36 = .ok (.getfield 18, 3) := by decide +kernel
theorem dX0_loseOldest_39 : decode cX0_loseOldest 39 = .ok (.iconst 5, 1) := by decide +kernel
theorem dX0_loseOldest_40 : decode cX0_loseOldest 40 = .ok (.aload_n 1, 1) := by decide +kernel
theorem dX0_loseOldest_41 : decode cX0_loseOldest 41 = .ok (.aastore, 1) := by decide +kernel
theorem dX0_loseOldest_42 : decode cX0_loseOldest 42 = .ok (.aload_n 0, 1) := by decide +kernel
theorem dX0_loseOldest_43 : decode cX0_loseOldest 43 = .ok (.iconst 5, 1) := by decide +kernel
theorem dX0_loseOldest_44 : decode cX0_loseOldest 44 = .ok (.putfield 22, 3) := by decide +kernel
theorem dX0_loseOldest_47 : decode cX0_loseOldest 47 = .ok (.return_, 1) := by decide +kernel
set_option maxRecDepth 20000 in
theorem ggX1_init_X3_init : GoodIn wsX1_init wsX3_init := goodIn_r _ [11, 12, 2, 3, 13, 14, 15, 16, 17] (by decide +kernel) (by decide +kernel)
set_option maxRecDepth 20000 in
theorem gX1_init_X3_init_n9 : GoodIn wsX1_init (wsX3_init) := ggX1_init_X3_init
theorem dX1_init_0 : decode cX1_init 0 = .ok (.aload_n 0, 1) := by decide +kernel
theorem dX1_init_1 : decode cX1_init 1 = .ok (.invokespecial 1, 3) := by decide +kernel
theorem dX1_init_4 : decode cX1_init 4 = .ok (.aload_n 0, 1) := by decide +kernel
theorem dX1_init_5 : decode cX1_init 5 = .ok (.new 7, 3) := by decide +kernel
theorem dX1_init_8 : decode cX1_init 8 = .ok (.dup, 1) := by decide +kernel
theorem dX1_init_9 : decode cX1_init 9 = .ok (.invokespecial 9, 3) := by decide +kernel
theorem dX1_init_12 : decode cX1_init 12 = .ok (.putfield 10, 3) := by decide +kernel
theorem dX1_init_15 : decode cX1_init 15 = .ok (.aload_n 0, 1) := by decide +kernel
theorem dX1_init_16 : decode cX1_init 16 = .ok (.new 7, 3) := by decide +kernel
theorem dX1_init_19 : decode cX1_init 19 = .ok (.dup, 1) := by decide +kernel
theorem dX1_init_20 : decode cX1_init 20 = .ok (.invokespecial 9, 3) := by decide +kernel
theorem dX1_init_23 : decode cX1_init 23 = .ok (.putfield 16, 3) := by decide +kernel
theorem dX1_init_26 : decode cX1_init 26 = .ok (.aload_n 0, 1) := by decide +kernel
theorem dX1_init_27 : decode cX1_init 27 = .ok (.iconst 1, 1) := by decide +kernel
theorem dX1_init_28 : decode cX1_init 28 = .ok (.putfield 19, 3) := by decide +kernel
theorem dX1_init_31 : decode cX1_init 31 = .ok (.return_, 1) := by decide +kernel
theorem dX1_tableNow_0 : decode cX1_tableNow 0 = .ok (.aload_n 0, 1) := by decide +kernel
theorem dX1_tableNow_1 : decode cX1_tableNow 1 = .ok (.getfield 10, 3) := by decide +kernel
theorem dX1_tableNow_4 : decode cX1_tableNow 4 = .ok (.areturn, 1) := by decide +kernel
theorem dX1_installedNow_0 : decode cX1_installedNow 0 = .ok (.aload_n 0, 1) := by decide +kernel
theorem dX1_installedNow_1 : decode cX1_installedNow 1 = .ok (.getfield 16, 3) := by decide +kernel
theorem dX1_installedNow_4 : decode cX1_installedNow 4 = .ok (.areturn, 1) := by decide +kernel
theorem dX1_drawNow_0 : decode cX1_drawNow 0 = .ok (.aload_n 0, 1) := by decide +kernel
theorem dX1_drawNow_1 : decode cX1_drawNow 1 = .ok (.getfield 19, 3) := by decide +kernel
theorem dX1_drawNow_4 : decode cX1_drawNow 4 = .ok (.ireturn, 1) := by decide +kernel
theorem dX1_setDraw_0 : decode cX1_setDraw 0 = .ok (.aload_n 0, 1) := by decide +kernel
theorem dX1_setDraw_1 : decode cX1_setDraw 1 = .ok (.iload_n 1, 1) := by decide +kernel
theorem dX1_setDraw_2 : decode cX1_setDraw 2 = .ok (.putfield 19, 3) := by decide +kernel
theorem dX1_setDraw_5 : decode cX1_setDraw 5 = .ok (.return_, 1) := by decide +kernel
theorem dX1_nextDraw_0 : decode cX1_nextDraw 0 = .ok (.aload_n 0, 1) := by decide +kernel
theorem dX1_nextDraw_1 : decode cX1_nextDraw 1 = .ok (.aload_n 0, 1) := by decide +kernel
theorem dX1_nextDraw_2 : decode cX1_nextDraw 2 = .ok (.getfield 19, 3) := by decide +kernel
theorem dX1_nextDraw_5 : decode cX1_nextDraw 5 = .ok (.ldc 23, 2) := by decide +kernel
theorem dX1_nextDraw_7 : decode cX1_nextDraw 7 = .ok (.imul, 1) := by decide +kernel
theorem dX1_nextDraw_8 : decode cX1_nextDraw 8 = .ok (.sipush 12345, 3) := by decide +kernel
theorem dX1_nextDraw_11 : decode cX1_nextDraw 11 = .ok (.iadd, 1) := by decide +kernel
theorem dX1_nextDraw_12 : decode cX1_nextDraw 12 = .ok (.ldc 24, 2) := by decide +kernel
theorem dX1_nextDraw_14 : decode cX1_nextDraw 14 = .ok (.iand, 1) := by decide +kernel
theorem dX1_nextDraw_15 : decode cX1_nextDraw 15 = .ok (.putfield 19, 3) := by decide +kernel
theorem dX1_nextDraw_18 : decode cX1_nextDraw 18 = .ok (.aload_n 0, 1) := by decide +kernel
theorem dX1_nextDraw_19 : decode cX1_nextDraw 19 = .ok (.getfield 19, 3) := by decide +kernel
theorem dX1_nextDraw_22 : decode cX1_nextDraw 22 = .ok (.ireturn, 1) := by decide +kernel
set_option maxRecDepth 20000 in
theorem ggX1_takeFrom_X3_takeFrom : GoodIn wsX1_takeFrom wsX3_takeFrom := goodIn_r _ [8, 9, 10, 11, 12, 13, 14, 18, 19] (by decide +kernel) (by decide +kernel)
set_option maxRecDepth 20000 in
theorem gX1_takeFrom_X3_takeFrom : GoodIn wsX1_takeFrom (wsV RX1 25 RX3 yX3_takeFrom wsX3_takeFrom) := goodIn_app (goodIn_of _ (by decide +kernel)) ggX1_takeFrom_X3_takeFrom
theorem dX1_takeFrom_0 : decode cX1_takeFrom 0 = .ok (.aload_n 0, 1) := by decide +kernel
theorem dX1_takeFrom_1 : decode cX1_takeFrom 1 = .ok (.getfield 10, 3) := by decide +kernel
theorem dX1_takeFrom_4 : decode cX1_takeFrom 4 = .ok (.aload_n 1, 1) := by decide +kernel
theorem dX1_takeFrom_5 : decode cX1_takeFrom 5 = .ok (.getfield 10, 3) := by decide +kernel
theorem dX1_takeFrom_8 : decode cX1_takeFrom 8 = .ok (.invokevirtual 25, 3) := by decide +kernel
theorem dX1_takeFrom_11 : decode cX1_takeFrom 11 = .ok (.aload_n 0, 1) := by decide +kernel
theorem dX1_takeFrom_12 : decode cX1_takeFrom 12 = .ok (.getfield 16, 3) := by decide +kernel
theorem dX1_takeFrom_15 : decode cX1_takeFrom 15 = .ok (.aload_n 1, 1) := by decide +kernel
theorem dX1_takeFrom_16 : decode cX1_takeFrom 16 = .ok (.getfield 16, 3) := by decide +kernel
theorem dX1_takeFrom_19 : decode cX1_takeFrom 19 = .ok (.invokevirtual 25, 3) := by decide +kernel
theorem dX1_takeFrom_22 : decode cX1_takeFrom 22 = .ok (.aload_n 0, 1) := by decide +kernel
theorem dX1_takeFrom_23 : decode cX1_takeFrom 23 = .ok (.aload_n 1, 1) := by decide +kernel
theorem dX1_takeFrom_24 : decode cX1_takeFrom 24 = .ok (.getfield 19, 3) := by decide +kernel
theorem dX1_takeFrom_27 : decode cX1_takeFrom 27 = .ok (.putfield 19, 3) := by decide +kernel
theorem dX1_takeFrom_30 : decode cX1_takeFrom 30 = .ok (.return_, 1) := by decide +kernel
theorem dX2_init_0 : decode cX2_init 0 = .ok (.aload_n 0, 1) := by decide +kernel
theorem dX2_init_1 : decode cX2_init 1 = .ok (.invokespecial 3, 3) := by decide +kernel
theorem dX2_init_4 : decode cX2_init 4 = .ok (.aload_n 0, 1) := by decide +kernel
theorem dX2_init_5 : decode cX2_init 5 = .ok (.bipush 30, 2) := by decide +kernel
theorem dX2_init_7 : decode cX2_init 7 = .ok (.newarray .long, 2) := by decide +kernel
theorem dX2_init_9 : decode cX2_init 9 = .ok (.putfield 9, 3) := by decide +kernel
theorem dX2_init_12 : decode cX2_init 12 = .ok (.aload_n 0, 1) := by decide +kernel
theorem dX2_init_13 : decode cX2_init 13 = .ok (.iconst (-1), 1) := by decide +kernel
theorem dX2_init_14 : decode cX2_init 14 = .ok (.putfield 15, 3) := by decide +kernel
theorem dX2_init_17 : decode cX2_init 17 = .ok (.aload_n 0, 1) := by decide +kernel
theorem dX2_init_18 : decode cX2_init 18 = .ok (.iconst 0, 1) := by decide +kernel
theorem dX2_init_19 : decode cX2_init 19 = .ok (.putfield 19, 3) := by decide +kernel
theorem dX2_init_22 : decode cX2_init 22 = .ok (.return_, 1) := by decide +kernel
theorem dX2_holdsNothing_0 : decode cX2_holdsNothing 0 = .ok (.aload_n 0, 1) := by decide +kernel
theorem dX2_holdsNothing_1 : decode cX2_holdsNothing 1 = .ok (.getfield 15, 3) := by decide +kernel
theorem dX2_holdsNothing_4 : decode cX2_holdsNothing 4 = .ok (.iconst (-1), 1) := by decide +kernel
theorem dX2_holdsNothing_5 : decode cX2_holdsNothing 5 = .ok (.if_icmp .ne 7, 3) := by decide +kernel
theorem dX2_holdsNothing_8 : decode cX2_holdsNothing 8 = .ok (.iconst 1, 1) := by decide +kernel
theorem dX2_holdsNothing_9 : decode cX2_holdsNothing 9 = .ok (.goto 4, 3) := by decide +kernel
theorem dX2_holdsNothing_12 : decode cX2_holdsNothing 12 = .ok (.iconst 0, 1) := by decide +kernel
theorem dX2_holdsNothing_13 : decode cX2_holdsNothing 13 = .ok (.ireturn, 1) := by decide +kernel
theorem dX2_hasLaneOf_0 : decode cX2_hasLaneOf 0 = .ok (.aload_n 0, 1) := by decide +kernel
theorem dX2_hasLaneOf_1 : decode cX2_hasLaneOf 1 = .ok (.getfield 15, 3) := by decide +kernel
theorem dX2_hasLaneOf_4 : decode cX2_hasLaneOf 4 = .ok (.aload_n 1, 1) := by decide +kernel
theorem dX2_hasLaneOf_5 : decode cX2_hasLaneOf 5 = .ok (.getfield 15, 3) := by decide +kernel
theorem dX2_hasLaneOf_8 : decode cX2_hasLaneOf 8 = .ok (.if_icmp .ne 7, 3) := by decide +kernel
theorem dX2_hasLaneOf_11 : decode cX2_hasLaneOf 11 = .ok (.iconst 1, 1) := by decide +kernel
theorem dX2_hasLaneOf_12 : decode cX2_hasLaneOf 12 = .ok (.goto 4, 3) := by decide +kernel
theorem dX2_hasLaneOf_15 : decode cX2_hasLaneOf 15 = .ok (.iconst 0, 1) := by decide +kernel
theorem dX2_hasLaneOf_16 : decode cX2_hasLaneOf 16 = .ok (.ireturn, 1) := by decide +kernel
theorem dX2_hasItems_0 : decode cX2_hasItems 0 = .ok (.iload_n 2, 1) := by decide +kernel
theorem dX2_hasItems_1 : decode cX2_hasItems 1 = .ok (.ifCond .lt 21, 3) := by decide +kernel
theorem dX2_hasItems_4 : decode cX2_hasItems 4 = .ok (.iload_n 1, 1) := by decide +kernel
theorem dX2_hasItems_5 : decode cX2_hasItems 5 = .ok (.ifCond .lt 17, 3) := by decide +kernel
theorem dX2_hasItems_8 : decode cX2_hasItems 8 = .ok (.iload_n 1, 1) := by decide +kernel
theorem dX2_hasItems_9 : decode cX2_hasItems 9 = .ok (.aload_n 0, 1) := by decide +kernel
theorem dX2_hasItems_10 : decode cX2_hasItems 10 = .ok (.getfield 19, 3) := by decide +kernel
theorem dX2_hasItems_13 : decode cX2_hasItems 13 = .ok (.iload_n 2, 1) := by decide +kernel
theorem dX2_hasItems_14 : decode cX2_hasItems 14 = .ok (.isub, 1) := by decide +kernel
theorem dX2_hasItems_15 : decode cX2_hasItems 15 = .ok (.if_icmp .gt 7, 3) := by decide +kernel
theorem dX2_hasItems_18 : decode cX2_hasItems 18 = .ok (.iconst 1, 1) := by decide +kernel
theorem dX2_hasItems_19 : decode cX2_hasItems 19 = .ok (.goto 4, 3) := by decide +kernel
theorem dX2_hasItems_22 : decode cX2_hasItems 22 = .ok (.iconst 0, 1) := by decide +kernel
theorem dX2_hasItems_23 : decode cX2_hasItems 23 = .ok (.ireturn, 1) := by decide +kernel
set_option maxRecDepth 20000 in
theorem ggX2_refusal_X2_holdsNothing : GoodIn wsX2_refusal wsX2_holdsNothing := goodIn_r _ [6, 1, 12, 13, 14] (by decide +kernel) (by decide +kernel)
set_option maxRecDepth 20000 in
theorem gX2_refusal_X2_holdsNothing : GoodIn wsX2_refusal (wsV RX2 22 RX2 yX2_holdsNothing wsX2_holdsNothing) := goodIn_app (goodIn_of _ (by decide +kernel)) ggX2_refusal_X2_holdsNothing
set_option maxRecDepth 20000 in
theorem ggX2_refusal_X2_hasItems : GoodIn wsX2_refusal wsX2_hasItems := goodIn_r _ [10, 11, 12, 13, 14] (by decide +kernel) (by decide +kernel)
set_option maxRecDepth 20000 in
theorem gX2_refusal_X2_hasItems : GoodIn wsX2_refusal (wsV RX2 26 RX2 yX2_hasItems wsX2_hasItems) := goodIn_app (goodIn_of _ (by decide +kernel)) ggX2_refusal_X2_hasItems
theorem dX2_refusal_0 : decode cX2_refusal 0 = .ok (.aload_n 0, 1) := by decide +kernel
theorem dX2_refusal_1 : decode cX2_refusal 1 = .ok (.invokevirtual 22, 3) := by decide +kernel
theorem dX2_refusal_4 : decode cX2_refusal 4 = .ok (.ifCond .eq 6, 3) := by decide +kernel
theorem dX2_refusal_7 : decode cX2_refusal 7 = .ok (.bipush (-11), 2) := by decide +kernel
theorem dX2_refusal_9 : decode cX2_refusal 9 = .ok (.ireturn, 1) := by decide +kernel
theorem dX2_refusal_10 : decode cX2_refusal 10 = .ok (.aload_n 0, 1) := by decide +kernel
theorem dX2_refusal_11 : decode cX2_refusal 11 = .ok (.getfield 15, 3) := by decide +kernel
theorem dX2_refusal_14 : decode cX2_refusal 14 = .ok (.iload_n 1, 1) := by decide +kernel
theorem dX2_refusal_15 : decode cX2_refusal 15 = .ok (.if_icmp .eq 6, 3) := by decide +kernel
theorem dX2_refusal_18 : decode cX2_refusal 18 = .ok (.bipush (-12), 2) := by decide +kernel
theorem dX2_refusal_20 : decode cX2_refusal 20 = .ok (.ireturn, 1) := by decide +kernel
theorem dX2_refusal_21 : decode cX2_refusal 21 = .ok (.aload_n 0, 1) := by decide +kernel
theorem dX2_refusal_22 : decode cX2_refusal 22 = .ok (.iload_n 2, 1) := by decide +kernel
theorem dX2_refusal_23 : decode cX2_refusal 23 = .ok (.iload_n 3, 1) := by decide +kernel
theorem dX2_refusal_24 : decode cX2_refusal 24 = .ok (.invokevirtual 26, 3) := by decide +kernel
theorem dX2_refusal_27 : decode cX2_refusal 27 = .ok (.ifCond .eq 7, 3) := by decide +kernel
theorem dX2_refusal_30 : decode cX2_refusal 30 = .ok (.iconst 0, 1) := by decide +kernel
theorem dX2_refusal_31 : decode cX2_refusal 31 = .ok (.goto 5, 3) := by decide +kernel
theorem dX2_refusal_34 : decode cX2_refusal 34 = .ok (.bipush (-13), 2) := by decide +kernel
theorem dX2_refusal_36 : decode cX2_refusal 36 = .ok (.ireturn, 1) := by decide +kernel
set_option maxRecDepth 20000 in
theorem ggX2_startRow_J7_fill_d0a16 : GoodIn wsX2_startRow wsJ7_fill_d0a16 := goodIn_r _ [7] (by decide +kernel) (by decide +kernel)
set_option maxRecDepth 20000 in
theorem gX2_startRow_J7_fill_d0a16 : GoodIn wsX2_startRow (va_wsS RX2 30 yJ7_fill_d0a16 wsJ7_fill_d0a16) := goodIn_app (goodIn_of _ (by decide +kernel)) ggX2_startRow_J7_fill_d0a16
theorem dX2_startRow_0 : decode cX2_startRow 0 = .ok (.aload_n 0, 1) := by decide +kernel
theorem dX2_startRow_1 : decode cX2_startRow 1 = .ok (.getfield 9, 3) := by decide +kernel
theorem dX2_startRow_4 : decode cX2_startRow 4 = .ok (.lconst 0, 1) := by decide +kernel
theorem dX2_startRow_5 : decode cX2_startRow 5 = .ok (.invokestatic 30, 3) := by decide +kernel
theorem dX2_startRow_8 : decode cX2_startRow 8 = .ok (.aload_n 0, 1) := by decide +kernel
theorem dX2_startRow_9 : decode cX2_startRow 9 = .ok (.iload_n 1, 1) := by decide +kernel
theorem dX2_startRow_10 : decode cX2_startRow 10 = .ok (.putfield 15, 3) := by decide +kernel
theorem dX2_startRow_13 : decode cX2_startRow 13 = .ok (.aload_n 0, 1) := by decide +kernel
theorem dX2_startRow_14 : decode cX2_startRow 14 = .ok (.iload_n 2, 1) := by decide +kernel
theorem dX2_startRow_15 : decode cX2_startRow 15 = .ok (.putfield 19, 3) := by decide +kernel
theorem dX2_startRow_18 : decode cX2_startRow 18 = .ok (.return_, 1) := by decide +kernel
theorem dX2_makeNothing_0 : decode cX2_makeNothing 0 = .ok (.aload_n 0, 1) := by decide +kernel
theorem dX2_makeNothing_1 : decode cX2_makeNothing 1 = .ok (.getfield 19, 3) := by decide +kernel
theorem dX2_makeNothing_4 : decode cX2_makeNothing 4 = .ok (.istore_n 1, 1) := by decide +kernel
theorem dX2_makeNothing_5 : decode cX2_makeNothing 5 = .ok (.aload_n 0, 1) := by decide +kernel
theorem dX2_makeNothing_6 : decode cX2_makeNothing 6 = .ok (.iconst (-1), 1) := by decide +kernel
theorem dX2_makeNothing_7 : decode cX2_makeNothing 7 = .ok (.putfield 15, 3) := by decide +kernel
theorem dX2_makeNothing_10 : decode cX2_makeNothing 10 = .ok (.aload_n 0, 1) := by decide +kernel
theorem dX2_makeNothing_11 : decode cX2_makeNothing 11 = .ok (.iconst 0, 1) := by decide +kernel
theorem dX2_makeNothing_12 : decode cX2_makeNothing 12 = .ok (.putfield 19, 3) := by decide +kernel
theorem dX2_makeNothing_15 : decode cX2_makeNothing 15 = .ok (.iload_n 1, 1) := by decide +kernel
theorem dX2_makeNothing_16 : decode cX2_makeNothing 16 = .ok (.ireturn, 1) := by decide +kernel
set_option maxRecDepth 20000 in
theorem ggX2_setItem_X2_hasItems : GoodIn wsX2_setItem wsX2_hasItems := goodIn_r _ [6, 7, 13, 14, 15] (by decide +kernel) (by decide +kernel)
set_option maxRecDepth 20000 in
theorem gX2_setItem_X2_hasItems : GoodIn wsX2_setItem (wsV RX2 26 RX2 yX2_hasItems wsX2_hasItems) := goodIn_app (goodIn_of _ (by decide +kernel)) ggX2_setItem_X2_hasItems
set_option maxRecDepth 20000 in
theorem ggX2_setItem_X2_lowestBits : GoodIn wsX2_setItem wsX2_lowestBits := goodIn_r _ [11, 12, 13, 14, 15] (by decide +kernel) (by decide +kernel)
set_option maxRecDepth 20000 in
theorem gX2_setItem_X2_lowestBits : GoodIn wsX2_setItem (wsV RX2 36 RX2 yX2_lowestBits wsX2_lowestBits) := goodIn_app (goodIn_of _ (by decide +kernel)) ggX2_setItem_X2_lowestBits
theorem dX2_setItem_0 : decode cX2_setItem 0 = .ok (.aload_n 0, 1) := by decide +kernel
theorem dX2_setItem_1 : decode cX2_setItem 1 = .ok (.iload_n 1, 1) := by decide +kernel
theorem dX2_setItem_2 : decode cX2_setItem 2 = .ok (.iconst 1, 1) := by decide +kernel
theorem dX2_setItem_3 : decode cX2_setItem 3 = .ok (.invokevirtual 26, 3) := by decide +kernel
theorem dX2_setItem_6 : decode cX2_setItem 6 = .ok (.ifCond .eq 14, 3) := by decide +kernel
theorem dX2_setItem_9 : decode cX2_setItem 9 = .ok (.aload_n 0, 1) := by decide +kernel
theorem dX2_setItem_10 : decode cX2_setItem 10 = .ok (.getfield 9, 3) := by decide +kernel
theorem dX2_setItem_13 : decode cX2_setItem 13 = .ok (.iload_n 1, 1) := by decide +kernel
theorem dX2_setItem_14 : decode cX2_setItem 14 = .ok (.aload_n 0, 1) := by decide +kernel
theorem dX2_setItem_15 : decode cX2_setItem 15 = .ok (.lload_n 2, 1) := by decide +kernel
theorem dX2_setItem_16 : decode cX2_setItem 16 = .ok (.invokevirtual 36, 3) := by decide +kernel
theorem dX2_setItem_19 : decode cX2_setItem 19 = .ok (.lastore, 1) := by decide +kernel
theorem dX2_setItem_20 : decode cX2_setItem 20 = .ok (.return_, 1) := by decide +kernel
set_option maxRecDepth 20000 in
theorem ggX2_takeItems_X2_hasItems : GoodIn wsX2_takeItems wsX2_hasItems := goodIn_r _ [10, 11, 12, 13, 14] (by decide +kernel) (by decide +kernel)
set_option maxRecDepth 20000 in
theorem gX2_takeItems_X2_hasItems : GoodIn wsX2_takeItems (wsV RX2 26 RX2 yX2_hasItems wsX2_hasItems) := goodIn_app (goodIn_of _ (by decide +kernel)) ggX2_takeItems_X2_hasItems
theorem dX2_takeItems_0 : decode cX2_takeItems 0 = .ok (.aload_n 2, 1) := by decide +kernel
theorem dX2_takeItems_1 : decode cX2_takeItems 1 = .ok (.iload_n 3, 1) := by decide +kernel
theorem dX2_takeItems_2 : decode cX2_takeItems 2 = .ok (.iload 4, 2) := by decide +kernel
theorem dX2_takeItems_4 : decode cX2_takeItems 4 = .ok (.invokevirtual 26, 3) := by decide +kernel
theorem dX2_takeItems_7 : decode cX2_takeItems 7 = .ok (.ifCond .eq 28, 3) := by decide +kernel
theorem dX2_takeItems_10 : decode cX2_takeItems 10 = .ok (.aload_n 0, 1) := by decide +kernel
theorem dX2_takeItems_11 : decode cX2_takeItems 11 = .ok (.iload_n 1, 1) := by decide +kernel
theorem dX2_takeItems_12 : decode cX2_takeItems 12 = .ok (.iload 4, 2) := by decide +kernel
theorem dX2_takeItems_14 : decode cX2_takeItems 14 = .ok (.invokevirtual 26, 3) := by decide +kernel
theorem dX2_takeItems_17 : decode cX2_takeItems 17 = .ok (.ifCond .eq 18, 3) := by decide +kernel
theorem dX2_takeItems_20 : decode cX2_takeItems 20 = .ok (.aload_n 2, 1) := by decide +kernel
theorem dX2_takeItems_21 : decode cX2_takeItems 21 = .ok (.getfield 9, 3) := by decide +kernel
theorem dX2_takeItems_24 : decode cX2_takeItems 24 = .ok (.iload_n 3, 1) := by decide +kernel
theorem dX2_takeItems_25 : decode cX2_takeItems 25 = .ok (.aload_n 0, 1) := by decide +kernel
theorem dX2_takeItems_26 : decode cX2_takeItems 26 = .ok (.getfield 9, 3) := by decide +kernel
theorem dX2_takeItems_29 : decode cX2_takeItems 29 = .ok (.iload_n 1, 1) := by decide +kernel
theorem dX2_takeItems_30 : decode cX2_takeItems 30 = .ok (.iload 4, 2) := by decide +kernel
theorem dX2_takeItems_32 : decode cX2_takeItems 32 = .ok (.invokestatic 40, 3) := by decide +kernel
theorem dX2_takeItems_35 : decode cX2_takeItems 35 = .ok (.return_, 1) := by decide +kernel
set_option maxRecDepth 20000 in
theorem ggX2_holdsPairs_X2_hasItems : GoodIn wsX2_holdsPairs wsX2_hasItems := goodIn_r _ [8, 9, 10, 11, 12] (by decide +kernel) (by decide +kernel)
set_option maxRecDepth 20000 in
theorem gX2_holdsPairs_X2_hasItems : GoodIn wsX2_holdsPairs (wsV RX2 26 RX2 yX2_hasItems wsX2_hasItems) := goodIn_app (goodIn_of _ (by decide +kernel)) ggX2_holdsPairs_X2_hasItems
theorem dX2_holdsPairs_0 : decode cX2_holdsPairs 0 = .ok (.aload_n 0, 1) := by decide +kernel
theorem dX2_holdsPairs_1 : decode cX2_holdsPairs 1 = .ok (.iload_n 1, 1) := by decide +kernel
theorem dX2_holdsPairs_2 : decode cX2_holdsPairs 2 = .ok (.iconst 2, 1) := by decide +kernel
theorem dX2_holdsPairs_3 : decode cX2_holdsPairs 3 = .ok (.iload_n 2, 1) := by decide +kernel
theorem dX2_holdsPairs_4 : decode cX2_holdsPairs 4 = .ok (.imul, 1) := by decide +kernel
theorem dX2_holdsPairs_5 : decode cX2_holdsPairs 5 = .ok (.invokevirtual 26, 3) := by decide +kernel
theorem dX2_holdsPairs_8 : decode cX2_holdsPairs 8 = .ok (.ifCond .ne 5, 3) := by decide +kernel
theorem dX2_holdsPairs_11 : decode cX2_holdsPairs 11 = .ok (.iconst 0, 1) := by decide +kernel
theorem dX2_holdsPairs_12 : decode cX2_holdsPairs 12 = .ok (.ireturn, 1) := by decide +kernel
theorem dX2_holdsPairs_13 : decode cX2_holdsPairs 13 = .ok (.iconst 0, 1) := by decide +kernel
theorem dX2_holdsPairs_14 : decode cX2_holdsPairs 14 = .ok (.istore_n 3, 1) := by decide +kernel
theorem dX2_holdsPairs_15 : decode cX2_holdsPairs 15 = .ok (.iload_n 3, 1) := by decide +kernel
theorem dX2_holdsPairs_16 : decode cX2_holdsPairs 16 = .ok (.iload_n 2, 1) := by decide +kernel
theorem dX2_holdsPairs_17 : decode cX2_holdsPairs 17 = .ok (.if_icmp .ge 69, 3) := by decide +kernel
theorem dX2_holdsPairs_20 : decode cX2_holdsPairs 20 = .ok (.aload_n 0, 1) := by decide +kernel
theorem dX2_holdsPairs_21 : decode cX2_holdsPairs 21 = .ok (.getfield 9, 3) := by decide +kernel
theorem dX2_holdsPairs_24 : decode cX2_holdsPairs 24 = .ok (.iload_n 1, 1) := by decide +kernel
theorem dX2_holdsPairs_25 : decode cX2_holdsPairs 25 = .ok (.iconst 2, 1) := by decide +kernel
theorem dX2_holdsPairs_26 : decode cX2_holdsPairs 26 = .ok (.iload_n 3, 1) := by decide +kernel
theorem dX2_holdsPairs_27 : decode cX2_holdsPairs 27 = .ok (.imul, 1) := by decide +kernel
theorem dX2_holdsPairs_28 : decode cX2_holdsPairs 28 = .ok (.iadd, 1) := by decide +kernel
theorem dX2_holdsPairs_29 : decode cX2_holdsPairs 29 = .ok (.laload, 1) := by decide +kernel
theorem dX2_holdsPairs_30 : decode cX2_holdsPairs 30 = .ok (.lstore 4, 2) := by decide +kernel
theorem dX2_holdsPairs_32 : decode cX2_holdsPairs 32 = .ok (.aload_n 0, 1) := by decide +kernel
theorem dX2_holdsPairs_33 : decode cX2_holdsPairs 33 = .ok (.getfield 9, 3) := by decide +kernel
theorem dX2_holdsPairs_36 : decode cX2_holdsPairs 36 = .ok (.iload_n 1, 1) := by decide +kernel
theorem dX2_holdsPairs_37 : decode cX2_holdsPairs 37 = .ok (.iconst 2, 1) := by decide +kernel
theorem dX2_holdsPairs_38 : decode cX2_holdsPairs 38 = .ok (.iload_n 3, 1) := by decide +kernel
theorem dX2_holdsPairs_39 : decode cX2_holdsPairs 39 = .ok (.imul, 1) := by decide +kernel
theorem dX2_holdsPairs_40 : decode cX2_holdsPairs 40 = .ok (.iadd, 1) := by decide +kernel
theorem dX2_holdsPairs_41 : decode cX2_holdsPairs 41 = .ok (.iconst 1, 1) := by decide +kernel
theorem dX2_holdsPairs_42 : decode cX2_holdsPairs 42 = .ok (.iadd, 1) := by decide +kernel
theorem dX2_holdsPairs_43 : decode cX2_holdsPairs 43 = .ok (.laload, 1) := by decide +kernel
theorem dX2_holdsPairs_44 : decode cX2_holdsPairs 44 = .ok (.lstore 6, 2) := by decide +kernel
theorem dX2_holdsPairs_46 : decode cX2_holdsPairs 46 = .ok (.lload 4, 2) := by decide +kernel
theorem dX2_holdsPairs_48 : decode cX2_holdsPairs 48 = .ok (.lconst 0, 1) := by decide +kernel
theorem dX2_holdsPairs_49 : decode cX2_holdsPairs 49 = .ok (.lcmp, 1) := by decide +kernel
theorem dX2_holdsPairs_50 : decode cX2_holdsPairs 50 = .ok (.ifCond .lt 28, 3) := by decide +kernel
theorem dX2_holdsPairs_53 : decode cX2_holdsPairs 53 = .ok (.lload 4, 2) := by decide +kernel
theorem dX2_holdsPairs_55 : decode cX2_holdsPairs 55 = .ok (.ldc2_w 46, 3) := by decide +kernel
theorem dX2_holdsPairs_58 : decode cX2_holdsPairs 58 = .ok (.lcmp, 1) := by decide +kernel
theorem dX2_holdsPairs_59 : decode cX2_holdsPairs 59 = .ok (.ifCond .ge 19, 3) := by decide +kernel
theorem dX2_holdsPairs_62 : decode cX2_holdsPairs 62 = .ok (.lload 6, 2) := by decide +kernel
theorem dX2_holdsPairs_64 : decode cX2_holdsPairs 64 = .ok (.lconst 0, 1) := by decide +kernel
theorem dX2_holdsPairs_65 : decode cX2_holdsPairs 65 = .ok (.lcmp, 1) := by decide +kernel
theorem dX2_holdsPairs_66 : decode cX2_holdsPairs 66 = .ok (.ifCond .lt 12, 3) := by decide +kernel
theorem dX2_holdsPairs_69 : decode cX2_holdsPairs 69 = .ok (.lload 6, 2) := by decide +kernel
theorem dX2_holdsPairs_71 : decode cX2_holdsPairs 71 = .ok (.ldc2_w 48, 3) := by decide +kernel
theorem dX2_holdsPairs_74 : decode cX2_holdsPairs 74 = .ok (.lcmp, 1) := by decide +kernel
theorem dX2_holdsPairs_75 : decode cX2_holdsPairs 75 = .ok (.ifCond .lt 5, 3) := by decide +kernel
theorem dX2_holdsPairs_78 : decode cX2_holdsPairs 78 = .ok (.iconst 0, 1) := by decide +kernel
theorem dX2_holdsPairs_79 : decode cX2_holdsPairs 79 = .ok (.ireturn, 1) := by decide +kernel
theorem dX2_holdsPairs_80 : decode cX2_holdsPairs 80 = .ok (.iinc 3 1, 3) := by decide +kernel
theorem dX2_holdsPairs_83 : decode cX2_holdsPairs 83 = .ok (.goto (-68), 3) := by decide +kernel
theorem dX2_holdsPairs_86 : decode cX2_holdsPairs 86 = .ok (.iconst 1, 1) := by decide +kernel
theorem dX2_holdsPairs_87 : decode cX2_holdsPairs 87 = .ok (.ireturn, 1) := by decide +kernel
set_option maxRecDepth 20000 in
theorem ggX2_isToldBy_X2_hasItems : GoodIn wsX2_isToldBy wsX2_hasItems := goodIn_r _ [6, 7, 8, 9, 10] (by decide +kernel) (by decide +kernel)
set_option maxRecDepth 20000 in
theorem gX2_isToldBy_X2_hasItems : GoodIn wsX2_isToldBy (wsV RX2 26 RX2 yX2_hasItems wsX2_hasItems) := goodIn_app (goodIn_of _ (by decide +kernel)) ggX2_isToldBy_X2_hasItems
theorem dX2_isToldBy_0 : decode cX2_isToldBy 0 = .ok (.aload_n 0, 1) := by decide +kernel
theorem dX2_isToldBy_1 : decode cX2_isToldBy 1 = .ok (.iload_n 2, 1) := by decide +kernel
theorem dX2_isToldBy_2 : decode cX2_isToldBy 2 = .ok (.iconst 2, 1) := by decide +kernel
theorem dX2_isToldBy_3 : decode cX2_isToldBy 3 = .ok (.iload_n 3, 1) := by decide +kernel
theorem dX2_isToldBy_4 : decode cX2_isToldBy 4 = .ok (.imul, 1) := by decide +kernel
theorem dX2_isToldBy_5 : decode cX2_isToldBy 5 = .ok (.invokevirtual 26, 3) := by decide +kernel
theorem dX2_isToldBy_8 : decode cX2_isToldBy 8 = .ok (.ifCond .ne 5, 3) := by decide +kernel
theorem dX2_isToldBy_11 : decode cX2_isToldBy 11 = .ok (.iconst 0, 1) := by decide +kernel
theorem dX2_isToldBy_12 : decode cX2_isToldBy 12 = .ok (.ireturn, 1) := by decide +kernel
theorem dX2_isToldBy_13 : decode cX2_isToldBy 13 = .ok (.bipush 8, 2) := by decide +kernel
theorem dX2_isToldBy_15 : decode cX2_isToldBy 15 = .ok (.iload_n 1, 1) := by decide +kernel
theorem dX2_isToldBy_16 : decode cX2_isToldBy 16 = .ok (.isub, 1) := by decide +kernel
theorem dX2_isToldBy_17 : decode cX2_isToldBy 17 = .ok (.istore 4, 2) := by decide +kernel
theorem dX2_isToldBy_19 : decode cX2_isToldBy 19 = .ok (.iconst 0, 1) := by decide +kernel
theorem dX2_isToldBy_20 : decode cX2_isToldBy 20 = .ok (.istore 5, 2) := by decide +kernel
theorem dX2_isToldBy_22 : decode cX2_isToldBy 22 = .ok (.iload 5, 2) := by decide +kernel
theorem dX2_isToldBy_24 : decode cX2_isToldBy 24 = .ok (.iload_n 3, 1) := by decide +kernel
theorem dX2_isToldBy_25 : decode cX2_isToldBy 25 = .ok (.if_icmp .ge 101, 3) := by decide +kernel
theorem dX2_isToldBy_28 : decode cX2_isToldBy 28 = .ok (.iconst 0, 1) := by decide +kernel
theorem dX2_isToldBy_29 : decode cX2_isToldBy 29 = .ok (.istore 6, 2) := by decide +kernel
theorem dX2_isToldBy_31 : decode cX2_isToldBy 31 = .ok (.iload 6, 2) := by decide +kernel
theorem dX2_isToldBy_33 : decode cX2_isToldBy 33 = .ok (.iload 5, 2) := by decide +kernel
theorem dX2_isToldBy_35 : decode cX2_isToldBy 35 = .ok (.if_icmp .ge 85, 3) := by decide +kernel
theorem dX2_isToldBy_38 : decode cX2_isToldBy 38 = .ok (.aload_n 0, 1) := by decide +kernel
theorem dX2_isToldBy_39 : decode cX2_isToldBy 39 = .ok (.getfield 9, 3) := by decide +kernel
theorem dX2_isToldBy_42 : decode cX2_isToldBy 42 = .ok (.iload_n 2, 1) := by decide +kernel
theorem dX2_isToldBy_43 : decode cX2_isToldBy 43 = .ok (.iconst 2, 1) := by decide +kernel
theorem dX2_isToldBy_44 : decode cX2_isToldBy 44 = .ok (.iload 5, 2) := by decide +kernel
theorem dX2_isToldBy_46 : decode cX2_isToldBy 46 = .ok (.imul, 1) := by decide +kernel
theorem dX2_isToldBy_47 : decode cX2_isToldBy 47 = .ok (.iadd, 1) := by decide +kernel
theorem dX2_isToldBy_48 : decode cX2_isToldBy 48 = .ok (.laload, 1) := by decide +kernel
theorem dX2_isToldBy_49 : decode cX2_isToldBy 49 = .ok (.iload 4, 2) := by decide +kernel
theorem dX2_isToldBy_51 : decode cX2_isToldBy 51 = .ok (.lshr, 1) := by decide +kernel
theorem dX2_isToldBy_52 : decode cX2_isToldBy 52 = .ok (.aload_n 0, 1) := by decide +kernel
theorem dX2_isToldBy_53 : decode cX2_isToldBy 53 = .ok (.getfield 9, 3) := by decide +kernel
theorem dX2_isToldBy_56 : decode cX2_isToldBy 56 = .ok (.iload_n 2, 1) := by decide +kernel
theorem dX2_isToldBy_57 : decode cX2_isToldBy 57 = .ok (.iconst 2, 1) := by decide +kernel
theorem dX2_isToldBy_58 : decode cX2_isToldBy 58 = .ok (.iload 6, 2) := by decide +kernel
theorem dX2_isToldBy_60 : decode cX2_isToldBy 60 = .ok (.imul, 1) := by decide +kernel
theorem dX2_isToldBy_61 : decode cX2_isToldBy 61 = .ok (.iadd, 1) := by decide +kernel
theorem dX2_isToldBy_62 : decode cX2_isToldBy 62 = .ok (.laload, 1) := by decide +kernel
theorem dX2_isToldBy_63 : decode cX2_isToldBy 63 = .ok (.iload 4, 2) := by decide +kernel
theorem dX2_isToldBy_65 : decode cX2_isToldBy 65 = .ok (.lshr, 1) := by decide +kernel
theorem dX2_isToldBy_66 : decode cX2_isToldBy 66 = .ok (.lcmp, 1) := by decide +kernel
theorem dX2_isToldBy_67 : decode cX2_isToldBy 67 = .ok (.ifCond .ne 7, 3) := by decide +kernel
theorem dX2_isToldBy_70 : decode cX2_isToldBy 70 = .ok (.iconst 1, 1) := by decide +kernel
theorem dX2_isToldBy_71 : decode cX2_isToldBy 71 = .ok (.goto 4, 3) := by decide +kernel
theorem dX2_isToldBy_74 : decode cX2_isToldBy 74 = .ok (.iconst 0, 1) := by decide +kernel
theorem dX2_isToldBy_75 : decode cX2_isToldBy 75 = .ok (.istore 7, 2) := by decide +kernel
theorem dX2_isToldBy_77 : decode cX2_isToldBy 77 = .ok (.iload 7, 2) := by decide +kernel
theorem dX2_isToldBy_79 : decode cX2_isToldBy 79 = .ok (.ifCond .eq 35, 3) := by decide +kernel
theorem dX2_isToldBy_82 : decode cX2_isToldBy 82 = .ok (.aload_n 0, 1) := by decide +kernel
theorem dX2_isToldBy_83 : decode cX2_isToldBy 83 = .ok (.getfield 9, 3) := by decide +kernel
theorem dX2_isToldBy_86 : decode cX2_isToldBy 86 = .ok (.iload_n 2, 1) := by decide +kernel
theorem dX2_isToldBy_87 : decode cX2_isToldBy 87 = .ok (.iconst 2, 1) := by decide +kernel
theorem dX2_isToldBy_88 : decode cX2_isToldBy 88 = .ok (.iload 5, 2) := by decide +kernel
theorem dX2_isToldBy_90 : decode cX2_isToldBy 90 = .ok (.imul, 1) := by decide +kernel
theorem dX2_isToldBy_91 : decode cX2_isToldBy 91 = .ok (.iadd, 1) := by decide +kernel
theorem dX2_isToldBy_92 : decode cX2_isToldBy 92 = .ok (.iconst 1, 1) := by decide +kernel
theorem dX2_isToldBy_93 : decode cX2_isToldBy 93 = .ok (.iadd, 1) := by decide +kernel
theorem dX2_isToldBy_94 : decode cX2_isToldBy 94 = .ok (.laload, 1) := by decide +kernel
theorem dX2_isToldBy_95 : decode cX2_isToldBy 95 = .ok (.aload_n 0, 1) := by decide +kernel
theorem dX2_isToldBy_96 : decode cX2_isToldBy 96 = .ok (.getfield 9, 3) := by decide +kernel
theorem dX2_isToldBy_99 : decode cX2_isToldBy 99 = .ok (.iload_n 2, 1) := by decide +kernel
theorem dX2_isToldBy_100 : decode cX2_isToldBy 100 = .ok (.iconst 2, 1) := by decide +kernel
theorem dX2_isToldBy_101 : decode cX2_isToldBy 101 = .ok (.iload 6, 2) := by decide +kernel
theorem dX2_isToldBy_103 : decode cX2_isToldBy 103 = .ok (.imul, 1) := by decide +kernel
theorem dX2_isToldBy_104 : decode cX2_isToldBy 104 = .ok (.iadd, 1) := by decide +kernel
theorem dX2_isToldBy_105 : decode cX2_isToldBy 105 = .ok (.iconst 1, 1) := by decide +kernel
theorem dX2_isToldBy_106 : decode cX2_isToldBy 106 = .ok (.iadd, 1) := by decide +kernel
theorem dX2_isToldBy_107 : decode cX2_isToldBy 107 = .ok (.laload, 1) := by decide +kernel
theorem dX2_isToldBy_108 : decode cX2_isToldBy 108 = .ok (.lcmp, 1) := by decide +kernel
theorem dX2_isToldBy_109 : decode cX2_isToldBy 109 = .ok (.ifCond .eq 5, 3) := by decide +kernel
theorem dX2_isToldBy_112 : decode cX2_isToldBy 112 = .ok (.iconst 0, 1) := by decide +kernel
theorem dX2_isToldBy_113 : decode cX2_isToldBy 113 = .ok (.ireturn, 1) := by decide +kernel
theorem dX2_isToldBy_114 : decode cX2_isToldBy 114 = .ok (.iinc 6 1, 3) := by decide +kernel
theorem dX2_isToldBy_117 : decode cX2_isToldBy 117 = .ok (.goto (-86), 3) := by decide +kernel
theorem dX2_isToldBy_120 : decode cX2_isToldBy 120 = .ok (.iinc 5 1, 3) := by decide +kernel
theorem dX2_isToldBy_123 : decode cX2_isToldBy 123 = .ok (.goto (-101), 3) := by decide +kernel
theorem dX2_isToldBy_126 : decode cX2_isToldBy 126 = .ok (.iconst 1, 1) := by decide +kernel
theorem dX2_isToldBy_127 : decode cX2_isToldBy 127 = .ok (.ireturn, 1) := by decide +kernel
theorem dX2_lowestBits_0 : decode cX2_lowestBits 0 = .ok (.aload_n 0, 1) := by decide +kernel
theorem dX2_lowestBits_1 : decode cX2_lowestBits 1 = .ok (.getfield 15, 3) := by decide +kernel
theorem dX2_lowestBits_4 : decode cX2_lowestBits 4 = .ok (.tableswitch 42 0 2 #[28, 33, 38], 28) := by decide +kernel
theorem dX2_lowestBits_32 : decode cX2_lowestBits 32 = .ok (.lload_n 1, 1) := by decide +kernel
theorem dX2_lowestBits_33 : decode cX2_lowestBits 33 = .ok (.l2i, 1) := by decide +kernel
theorem dX2_lowestBits_34 : decode cX2_lowestBits 34 = .ok (.i2b, 1) := by decide +kernel
theorem dX2_lowestBits_35 : decode cX2_lowestBits 35 = .ok (.i2l, 1) := by decide +kernel
theorem dX2_lowestBits_36 : decode cX2_lowestBits 36 = .ok (.lreturn, 1) := by decide +kernel
theorem dX2_lowestBits_37 : decode cX2_lowestBits 37 = .ok (.lload_n 1, 1) := by decide +kernel
theorem dX2_lowestBits_38 : decode cX2_lowestBits 38 = .ok (.l2i, 1) := by decide +kernel
theorem dX2_lowestBits_39 : decode cX2_lowestBits 39 = .ok (.i2s, 1) := by decide +kernel
theorem dX2_lowestBits_40 : decode cX2_lowestBits 40 = .ok (.i2l, 1) := by decide +kernel
theorem dX2_lowestBits_41 : decode cX2_lowestBits 41 = .ok (.lreturn, 1) := by decide +kernel
theorem dX2_lowestBits_42 : decode cX2_lowestBits 42 = .ok (.lload_n 1, 1) := by decide +kernel
theorem dX2_lowestBits_43 : decode cX2_lowestBits 43 = .ok (.l2i, 1) := by decide +kernel
theorem dX2_lowestBits_44 : decode cX2_lowestBits 44 = .ok (.i2l, 1) := by decide +kernel
theorem dX2_lowestBits_45 : decode cX2_lowestBits 45 = .ok (.lreturn, 1) := by decide +kernel
theorem dX2_lowestBits_46 : decode cX2_lowestBits 46 = .ok (.lload_n 1, 1) := by decide +kernel
theorem dX2_lowestBits_47 : decode cX2_lowestBits 47 = .ok (.lreturn, 1) := by decide +kernel
theorem dX3_init_0 : decode cX3_init 0 = .ok (.aload_n 0, 1) := by decide +kernel
theorem dX3_init_1 : decode cX3_init 1 = .ok (.invokespecial 3, 3) := by decide +kernel
theorem dX3_init_4 : decode cX3_init 4 = .ok (.aload_n 0, 1) := by decide +kernel
theorem dX3_init_5 : decode cX3_init 5 = .ok (.bipush 32, 2) := by decide +kernel
theorem dX3_init_7 : decode cX3_init 7 = .ok (.newarray .long, 2) := by decide +kernel
theorem dX3_init_9 : decode cX3_init 9 = .ok (.putfield 9, 3) := by decide +kernel
theorem dX3_init_12 : decode cX3_init 12 = .ok (.aload_n 0, 1) := by decide +kernel
theorem dX3_init_13 : decode cX3_init 13 = .ok (.iconst 0, 1) := by decide +kernel
theorem dX3_init_14 : decode cX3_init 14 = .ok (.putfield 15, 3) := by decide +kernel
theorem dX3_init_17 : decode cX3_init 17 = .ok (.return_, 1) := by decide +kernel
theorem dX3_howMany_0 : decode cX3_howMany 0 = .ok (.aload_n 0, 1) := by decide +kernel
theorem dX3_howMany_1 : decode cX3_howMany 1 = .ok (.getfield 15, 3) := by decide +kernel
theorem dX3_howMany_4 : decode cX3_howMany 4 = .ok (.ireturn, 1) := by decide +kernel
theorem dX3_hopAt_0 : decode cX3_hopAt 0 = .ok (.iload_n 1, 1) := by decide +kernel
theorem dX3_hopAt_1 : decode cX3_hopAt 1 = .ok (.iconst 1, 1) := by decide +kernel
theorem dX3_hopAt_2 : decode cX3_hopAt 2 = .ok (.if_icmp .lt 10, 3) := by decide +kernel
theorem dX3_hopAt_5 : decode cX3_hopAt 5 = .ok (.iload_n 1, 1) := by decide +kernel
theorem dX3_hopAt_6 : decode cX3_hopAt 6 = .ok (.sipush 512, 3) := by decide +kernel
theorem dX3_hopAt_9 : decode cX3_hopAt 9 = .ok (.if_icmp .lt 6, 3) := by decide +kernel
theorem dX3_hopAt_12 : decode cX3_hopAt 12 = .ok (.bipush (-4), 2) := by decide +kernel
theorem dX3_hopAt_14 : decode cX3_hopAt 14 = .ok (.ireturn, 1) := by decide +kernel
theorem dX3_hopAt_15 : decode cX3_hopAt 15 = .ok (.aload_n 0, 1) := by decide +kernel
theorem dX3_hopAt_16 : decode cX3_hopAt 16 = .ok (.getfield 9, 3) := by decide +kernel
theorem dX3_hopAt_19 : decode cX3_hopAt 19 = .ok (.iload_n 1, 1) := by decide +kernel
theorem dX3_hopAt_20 : decode cX3_hopAt 20 = .ok (.iconst 4, 1) := by decide +kernel
theorem dX3_hopAt_21 : decode cX3_hopAt 21 = .ok (.ishr, 1) := by decide +kernel
theorem dX3_hopAt_22 : decode cX3_hopAt 22 = .ok (.laload, 1) := by decide +kernel
theorem dX3_hopAt_23 : decode cX3_hopAt 23 = .ok (.iconst 4, 1) := by decide +kernel
theorem dX3_hopAt_24 : decode cX3_hopAt 24 = .ok (.iload_n 1, 1) := by decide +kernel
theorem dX3_hopAt_25 : decode cX3_hopAt 25 = .ok (.bipush 15, 2) := by decide +kernel
theorem dX3_hopAt_27 : decode cX3_hopAt 27 = .ok (.iand, 1) := by decide +kernel
theorem dX3_hopAt_28 : decode cX3_hopAt 28 = .ok (.imul, 1) := by decide +kernel
theorem dX3_hopAt_29 : decode cX3_hopAt 29 = .ok (.lushr, 1) := by decide +kernel
theorem dX3_hopAt_30 : decode cX3_hopAt 30 = .ok (.l2i, 1) := by decide +kernel
theorem dX3_hopAt_31 : decode cX3_hopAt 31 = .ok (.bipush 15, 2) := by decide +kernel
theorem dX3_hopAt_33 : decode cX3_hopAt 33 = .ok (.iand, 1) := by decide +kernel
theorem dX3_hopAt_34 : decode cX3_hopAt 34 = .ok (.istore_n 2, 1) := by decide +kernel
theorem dX3_hopAt_35 : decode cX3_hopAt 35 = .ok (.iload_n 2, 1) := by decide +kernel
theorem dX3_hopAt_36 : decode cX3_hopAt 36 = .ok (.ifCond .ne 8, 3) := by decide +kernel
theorem dX3_hopAt_39 : decode cX3_hopAt 39 = .ok (.bipush (-4), 2) := by decide +kernel
theorem dX3_hopAt_41 : decode cX3_hopAt 41 = .ok (.goto 6, 3) := by decide +kernel
theorem dX3_hopAt_44 : decode cX3_hopAt 44 = .ok (.iload_n 2, 1) := by decide +kernel
theorem dX3_hopAt_45 : decode cX3_hopAt 45 = .ok (.iconst 1, 1) := by decide +kernel
theorem dX3_hopAt_46 : decode cX3_hopAt 46 = .ok (.isub, 1) := by decide +kernel
theorem dX3_hopAt_47 : decode cX3_hopAt 47 = .ok (.ireturn, 1) := by decide +kernel
set_option maxRecDepth 20000 in
theorem ggX3_put_X6_isPrefix : GoodIn wsX3_put wsX6_isPrefix := goodIn_r _ [4] (by decide +kernel) (by decide +kernel)
set_option maxRecDepth 20000 in
theorem gX3_put_X6_isPrefix_n19 : GoodIn wsX3_put (wsX6_isPrefix) := ggX3_put_X6_isPrefix
set_option maxRecDepth 20000 in
theorem ggX3_put_X6_isHop : GoodIn wsX3_put wsX6_isHop := goodIn_r _ [6] (by decide +kernel) (by decide +kernel)
set_option maxRecDepth 20000 in
theorem gX3_put_X6_isHop_n23 : GoodIn wsX3_put (wsX6_isHop) := ggX3_put_X6_isHop
set_option maxRecDepth 20000 in
theorem ggX3_put_X3_hopAt : GoodIn wsX3_put wsX3_hopAt := goodIn_r _ [11, 12, 19, 20] (by decide +kernel) (by decide +kernel)
set_option maxRecDepth 20000 in
theorem gX3_put_X3_hopAt : GoodIn wsX3_put (wsV RX3 26 RX3 yX3_hopAt wsX3_hopAt) := goodIn_app (goodIn_of _ (by decide +kernel)) ggX3_put_X3_hopAt
set_option maxRecDepth 20000 in
theorem ggX3_put_X3_setPlace : GoodIn wsX3_put wsX3_setPlace := goodIn_r _ [16, 12, 17, 18, 19, 20] (by decide +kernel) (by decide +kernel)
set_option maxRecDepth 20000 in
theorem gX3_put_X3_setPlace : GoodIn wsX3_put (wsV RX3 30 RX3 yX3_setPlace wsX3_setPlace) := goodIn_app (goodIn_of _ (by decide +kernel)) ggX3_put_X3_setPlace
theorem dX3_put_0 : decode cX3_put 0 = .ok (.iload_n 1, 1) := by decide +kernel
theorem dX3_put_1 : decode cX3_put 1 = .ok (.invokestatic 19, 3) := by decide +kernel
theorem dX3_put_4 : decode cX3_put 4 = .ok (.ifCond .eq 42, 3) := by decide +kernel
theorem dX3_put_7 : decode cX3_put 7 = .ok (.iload_n 2, 1) := by decide +kernel
theorem dX3_put_8 : decode cX3_put 8 = .ok (.invokestatic 23, 3) := by decide +kernel
theorem dX3_put_11 : decode cX3_put 11 = .ok (.ifCond .eq 35, 3) := by decide +kernel
theorem dX3_put_14 : decode cX3_put 14 = .ok (.aload_n 0, 1) := by decide +kernel
theorem dX3_put_15 : decode cX3_put 15 = .ok (.dup, 1) := by decide +kernel
theorem dX3_put_16 : decode cX3_put 16 = .ok (.getfield 15, 3) := by decide +kernel
theorem dX3_put_19 : decode cX3_put 19 = .ok (.aload_n 0, 1) := by decide +kernel
theorem dX3_put_20 : decode cX3_put 20 = .ok (.iload_n 1, 1) := by decide +kernel
theorem dX3_put_21 : decode cX3_put 21 = .ok (.invokevirtual 26, 3) := by decide +kernel
theorem dX3_put_24 : decode cX3_put 24 = .ok (.bipush (-4), 2) := by decide +kernel
theorem dX3_put_26 : decode cX3_put 26 = .ok (.if_icmp .ne 7, 3) := by decide +kernel
theorem dX3_put_29 : decode cX3_put 29 = .ok (.iconst 1, 1) := by decide +kernel
theorem dX3_put_30 : decode cX3_put 30 = .ok (.goto 4, 3) := by decide +kernel
theorem dX3_put_33 : decode cX3_put 33 = .ok (.iconst 0, 1) := by decide +kernel
theorem dX3_put_34 : decode cX3_put 34 = .ok (.iadd, 1) := by decide +kernel
theorem dX3_put_35 : decode cX3_put 35 = .ok (.putfield 15, 3) := by decide +kernel
theorem dX3_put_38 : decode cX3_put 38 = .ok (.aload_n 0, 1) := by decide +kernel
theorem dX3_put_39 : decode cX3_put 39 = .ok (.iload_n 1, 1) := by decide +kernel
theorem dX3_put_40 : decode cX3_put 40 = .ok (.iload_n 2, 1) := by decide +kernel
theorem dX3_put_41 : decode cX3_put 41 = .ok (.iconst 1, 1) := by decide +kernel
theorem dX3_put_42 : decode cX3_put 42 = .ok (.iadd, 1) := by decide +kernel
theorem dX3_put_43 : decode cX3_put 43 = .ok (.invokevirtual 30, 3) := by decide +kernel
theorem dX3_put_46 : decode cX3_put 46 = .ok (.return_, 1) := by decide +kernel
set_option maxRecDepth 20000 in
theorem ggX3_takeOut_X3_hopAt : GoodIn wsX3_takeOut wsX3_hopAt := goodIn_r _ [6, 7, 14, 15] (by decide +kernel) (by decide +kernel)
set_option maxRecDepth 20000 in
theorem gX3_takeOut_X3_hopAt : GoodIn wsX3_takeOut (wsV RX3 26 RX3 yX3_hopAt wsX3_hopAt) := goodIn_app (goodIn_of _ (by decide +kernel)) ggX3_takeOut_X3_hopAt
set_option maxRecDepth 20000 in
theorem ggX3_takeOut_X3_setPlace : GoodIn wsX3_takeOut wsX3_setPlace := goodIn_r _ [11, 7, 12, 13, 14, 15] (by decide +kernel) (by decide +kernel)
set_option maxRecDepth 20000 in
theorem gX3_takeOut_X3_setPlace : GoodIn wsX3_takeOut (wsV RX3 30 RX3 yX3_setPlace wsX3_setPlace) := goodIn_app (goodIn_of _ (by decide +kernel)) ggX3_takeOut_X3_setPlace
theorem dX3_takeOut_0 : decode cX3_takeOut 0 = .ok (.aload_n 0, 1) := by decide +kernel
theorem dX3_takeOut_1 : decode cX3_takeOut 1 = .ok (.iload_n 1, 1) := by decide +kernel
theorem dX3_takeOut_2 : decode cX3_takeOut 2 = .ok (.invokevirtual 26, 3) := by decide +kernel
theorem dX3_takeOut_5 : decode cX3_takeOut 5 = .ok (.bipush (-4), 2) := by decide +kernel
theorem dX3_takeOut_7 : decode cX3_takeOut 7 = .ok (.if_icmp .eq 19, 3) := by decide +kernel
theorem dX3_takeOut_10 : decode cX3_takeOut 10 = .ok (.aload_n 0, 1) := by decide +kernel
theorem dX3_takeOut_11 : decode cX3_takeOut 11 = .ok (.dup, 1) := by decide +kernel
theorem dX3_takeOut_12 : decode cX3_takeOut 12 = .ok (.getfield 15, 3) := by decide +kernel
theorem dX3_takeOut_15 : decode cX3_takeOut 15 = .ok (.iconst 1, 1) := by decide +kernel
theorem dX3_takeOut_16 : decode cX3_takeOut 16 = .ok (.isub, 1) := by decide +kernel
theorem dX3_takeOut_17 : decode cX3_takeOut 17 = .ok (.putfield 15, 3) := by decide +kernel
theorem dX3_takeOut_20 : decode cX3_takeOut 20 = .ok (.aload_n 0, 1) := by decide +kernel
theorem dX3_takeOut_21 : decode cX3_takeOut 21 = .ok (.iload_n 1, 1) := by decide +kernel
theorem dX3_takeOut_22 : decode cX3_takeOut 22 = .ok (.iconst 0, 1) := by decide +kernel
theorem dX3_takeOut_23 : decode cX3_takeOut 23 = .ok (.invokevirtual 30, 3) := by decide +kernel
theorem dX3_takeOut_26 : decode cX3_takeOut 26 = .ok (.return_, 1) := by decide +kernel
set_option maxRecDepth 20000 in
theorem ggX3_makeEmpty_J7_fill_d0a16 : GoodIn wsX3_makeEmpty wsJ7_fill_d0a16 := goodIn_r _ [6] (by decide +kernel) (by decide +kernel)
set_option maxRecDepth 20000 in
theorem gX3_makeEmpty_J7_fill_d0a16 : GoodIn wsX3_makeEmpty (va_wsS RX3 34 yJ7_fill_d0a16 wsJ7_fill_d0a16) := goodIn_app (goodIn_of _ (by decide +kernel)) ggX3_makeEmpty_J7_fill_d0a16
theorem dX3_makeEmpty_0 : decode cX3_makeEmpty 0 = .ok (.aload_n 0, 1) := by decide +kernel
theorem dX3_makeEmpty_1 : decode cX3_makeEmpty 1 = .ok (.getfield 9, 3) := by decide +kernel
theorem dX3_makeEmpty_4 : decode cX3_makeEmpty 4 = .ok (.lconst 0, 1) := by decide +kernel
theorem dX3_makeEmpty_5 : decode cX3_makeEmpty 5 = .ok (.invokestatic 34, 3) := by decide +kernel
theorem dX3_makeEmpty_8 : decode cX3_makeEmpty 8 = .ok (.aload_n 0, 1) := by decide +kernel
theorem dX3_makeEmpty_9 : decode cX3_makeEmpty 9 = .ok (.iconst 0, 1) := by decide +kernel
theorem dX3_makeEmpty_10 : decode cX3_makeEmpty 10 = .ok (.putfield 15, 3) := by decide +kernel
theorem dX3_makeEmpty_13 : decode cX3_makeEmpty 13 = .ok (.return_, 1) := by decide +kernel
theorem dX3_takeFrom_0 : decode cX3_takeFrom 0 = .ok (.aload_n 1, 1) := by decide +kernel
theorem dX3_takeFrom_1 : decode cX3_takeFrom 1 = .ok (.getfield 9, 3) := by decide +kernel
theorem dX3_takeFrom_4 : decode cX3_takeFrom 4 = .ok (.iconst 0, 1) := by decide +kernel
theorem dX3_takeFrom_5 : decode cX3_takeFrom 5 = .ok (.aload_n 0, 1) := by decide +kernel
theorem dX3_takeFrom_6 : decode cX3_takeFrom 6 = .ok (.getfield 9, 3) := by decide +kernel
theorem dX3_takeFrom_9 : decode cX3_takeFrom 9 = .ok (.iconst 0, 1) := by decide +kernel
theorem dX3_takeFrom_10 : decode cX3_takeFrom 10 = .ok (.aload_n 0, 1) := by decide +kernel
theorem dX3_takeFrom_11 : decode cX3_takeFrom 11 = .ok (.getfield 9, 3) := by decide +kernel
theorem dX3_takeFrom_14 : decode cX3_takeFrom 14 = .ok (.arraylength, 1) := by decide +kernel
theorem dX3_takeFrom_15 : decode cX3_takeFrom 15 = .ok (.invokestatic 40, 3) := by decide +kernel
theorem dX3_takeFrom_18 : decode cX3_takeFrom 18 = .ok (.aload_n 0, 1) := by decide +kernel
theorem dX3_takeFrom_19 : decode cX3_takeFrom 19 = .ok (.aload_n 1, 1) := by decide +kernel
theorem dX3_takeFrom_20 : decode cX3_takeFrom 20 = .ok (.getfield 15, 3) := by decide +kernel
theorem dX3_takeFrom_23 : decode cX3_takeFrom 23 = .ok (.putfield 15, 3) := by decide +kernel
theorem dX3_takeFrom_26 : decode cX3_takeFrom 26 = .ok (.return_, 1) := by decide +kernel
set_option maxRecDepth 20000 in
theorem ggX3_deciderOf_X3_hopAt : GoodIn wsX3_deciderOf wsX3_hopAt := goodIn_r _ [5, 6, 7, 8] (by decide +kernel) (by decide +kernel)
set_option maxRecDepth 20000 in
theorem gX3_deciderOf_X3_hopAt : GoodIn wsX3_deciderOf (wsV RX3 26 RX3 yX3_hopAt wsX3_hopAt) := goodIn_app (goodIn_of _ (by decide +kernel)) ggX3_deciderOf_X3_hopAt
theorem dX3_deciderOf_0 : decode cX3_deciderOf 0 = .ok (.iconst 0, 1) := by decide +kernel
theorem dX3_deciderOf_1 : decode cX3_deciderOf 1 = .ok (.istore_n 2, 1) := by decide +kernel
theorem dX3_deciderOf_2 : decode cX3_deciderOf 2 = .ok (.iload_n 2, 1) := by decide +kernel
theorem dX3_deciderOf_3 : decode cX3_deciderOf 3 = .ok (.bipush 8, 2) := by decide +kernel
theorem dX3_deciderOf_5 : decode cX3_deciderOf 5 = .ok (.if_icmp .gt 29, 3) := by decide +kernel
theorem dX3_deciderOf_8 : decode cX3_deciderOf 8 = .ok (.sipush 256, 3) := by decide +kernel
theorem dX3_deciderOf_11 : decode cX3_deciderOf 11 = .ok (.iload_n 1, 1) := by decide +kernel
theorem dX3_deciderOf_12 : decode cX3_deciderOf 12 = .ok (.iadd, 1) := by decide +kernel
theorem dX3_deciderOf_13 : decode cX3_deciderOf 13 = .ok (.iload_n 2, 1) := by decide +kernel
theorem dX3_deciderOf_14 : decode cX3_deciderOf 14 = .ok (.ishr, 1) := by decide +kernel
theorem dX3_deciderOf_15 : decode cX3_deciderOf 15 = .ok (.istore_n 3, 1) := by decide +kernel
theorem dX3_deciderOf_16 : decode cX3_deciderOf 16 = .ok (.aload_n 0, 1) := by decide +kernel
theorem dX3_deciderOf_17 : decode cX3_deciderOf 17 = .ok (.iload_n 3, 1) := by decide +kernel
theorem dX3_deciderOf_18 : decode cX3_deciderOf 18 = .ok (.invokevirtual 26, 3) := by decide +kernel
theorem dX3_deciderOf_21 : decode cX3_deciderOf 21 = .ok (.bipush (-4), 2) := by decide +kernel
theorem dX3_deciderOf_23 : decode cX3_deciderOf 23 = .ok (.if_icmp .eq 5, 3) := by decide +kernel
theorem dX3_deciderOf_26 : decode cX3_deciderOf 26 = .ok (.iload_n 3, 1) := by decide +kernel
theorem dX3_deciderOf_27 : decode cX3_deciderOf 27 = .ok (.ireturn, 1) := by decide +kernel
theorem dX3_deciderOf_28 : decode cX3_deciderOf 28 = .ok (.iinc 2 1, 3) := by decide +kernel
theorem dX3_deciderOf_31 : decode cX3_deciderOf 31 = .ok (.goto (-29), 3) := by decide +kernel
theorem dX3_deciderOf_34 : decode cX3_deciderOf 34 = .ok (.bipush (-4), 2) := by decide +kernel
theorem dX3_deciderOf_36 : decode cX3_deciderOf 36 = .ok (.ireturn, 1) := by decide +kernel
set_option maxRecDepth 20000 in
theorem ggX3_hopOfAddress_X3_deciderOf : GoodIn wsX3_hopOfAddress wsX3_deciderOf := goodIn_r _ [5, 6, 7, 8, 4, 9, 10, 11, 12] (by decide +kernel) (by decide +kernel)
set_option maxRecDepth 20000 in
theorem gX3_hopOfAddress_X3_deciderOf : GoodIn wsX3_hopOfAddress (wsV RX3 46 RX3 yX3_deciderOf wsX3_deciderOf) := goodIn_app (goodIn_of _ (by decide +kernel)) ggX3_hopOfAddress_X3_deciderOf
set_option maxRecDepth 20000 in
theorem ggX3_hopOfAddress_X3_hopAt : GoodIn wsX3_hopOfAddress wsX3_hopAt := goodIn_r _ [9, 10, 11, 12] (by decide +kernel) (by decide +kernel)
set_option maxRecDepth 20000 in
theorem gX3_hopOfAddress_X3_hopAt : GoodIn wsX3_hopOfAddress (wsV RX3 26 RX3 yX3_hopAt wsX3_hopAt) := goodIn_app (goodIn_of _ (by decide +kernel)) ggX3_hopOfAddress_X3_hopAt
theorem dX3_hopOfAddress_0 : decode cX3_hopOfAddress 0 = .ok (.aload_n 0, 1) := by decide +kernel
theorem dX3_hopOfAddress_1 : decode cX3_hopOfAddress 1 = .ok (.iload_n 1, 1) := by decide +kernel
theorem dX3_hopOfAddress_2 : decode cX3_hopOfAddress 2 = .ok (.invokevirtual 46, 3) := by decide +kernel
theorem dX3_hopOfAddress_5 : decode cX3_hopOfAddress 5 = .ok (.istore_n 2, 1) := by decide +kernel
theorem dX3_hopOfAddress_6 : decode cX3_hopOfAddress 6 = .ok (.iload_n 2, 1) := by decide +kernel
theorem dX3_hopOfAddress_7 : decode cX3_hopOfAddress 7 = .ok (.bipush (-4), 2) := by decide +kernel
theorem dX3_hopOfAddress_9 : decode cX3_hopOfAddress 9 = .ok (.if_icmp .ne 7, 3) := by decide +kernel
theorem dX3_hopOfAddress_12 : decode cX3_hopOfAddress 12 = .ok (.iconst 0, 1) := by decide +kernel
theorem dX3_hopOfAddress_13 : decode cX3_hopOfAddress 13 = .ok (.goto 8, 3) := by decide +kernel
theorem dX3_hopOfAddress_16 : decode cX3_hopOfAddress 16 = .ok (.aload_n 0, 1) := by decide +kernel
theorem dX3_hopOfAddress_17 : decode cX3_hopOfAddress 17 = .ok (.iload_n 2, 1) := by decide +kernel
theorem dX3_hopOfAddress_18 : decode cX3_hopOfAddress 18 = .ok (.invokevirtual 26, 3) := by decide +kernel
theorem dX3_hopOfAddress_21 : decode cX3_hopOfAddress 21 = .ok (.ireturn, 1) := by decide +kernel
set_option maxRecDepth 20000 in
theorem ggX3_hopFromAbove_X3_hopAt : GoodIn wsX3_hopFromAbove wsX3_hopAt := goodIn_r _ [5, 6, 7, 8] (by decide +kernel) (by decide +kernel)
set_option maxRecDepth 20000 in
theorem gX3_hopFromAbove_X3_hopAt : GoodIn wsX3_hopFromAbove (wsV RX3 26 RX3 yX3_hopAt wsX3_hopAt) := goodIn_app (goodIn_of _ (by decide +kernel)) ggX3_hopFromAbove_X3_hopAt
theorem dX3_hopFromAbove_0 : decode cX3_hopFromAbove 0 = .ok (.iconst 1, 1) := by decide +kernel
theorem dX3_hopFromAbove_1 : decode cX3_hopFromAbove 1 = .ok (.istore_n 2, 1) := by decide +kernel
theorem dX3_hopFromAbove_2 : decode cX3_hopFromAbove 2 = .ok (.iload_n 2, 1) := by decide +kernel
theorem dX3_hopFromAbove_3 : decode cX3_hopFromAbove 3 = .ok (.bipush 8, 2) := by decide +kernel
theorem dX3_hopFromAbove_5 : decode cX3_hopFromAbove 5 = .ok (.if_icmp .gt 25, 3) := by decide +kernel
theorem dX3_hopFromAbove_8 : decode cX3_hopFromAbove 8 = .ok (.aload_n 0, 1) := by decide +kernel
theorem dX3_hopFromAbove_9 : decode cX3_hopFromAbove 9 = .ok (.iload_n 1, 1) := by decide +kernel
theorem dX3_hopFromAbove_10 : decode cX3_hopFromAbove 10 = .ok (.iload_n 2, 1) := by decide +kernel
theorem dX3_hopFromAbove_11 : decode cX3_hopFromAbove 11 = .ok (.ishr, 1) := by decide +kernel
theorem dX3_hopFromAbove_12 : decode cX3_hopFromAbove 12 = .ok (.invokevirtual 26, 3) := by decide +kernel
theorem dX3_hopFromAbove_15 : decode cX3_hopFromAbove 15 = .ok (.istore_n 3, 1) := by decide +kernel
theorem dX3_hopFromAbove_16 : decode cX3_hopFromAbove 16 = .ok (.iload_n 3, 1) := by decide +kernel
theorem dX3_hopFromAbove_17 : decode cX3_hopFromAbove 17 = .ok (.bipush (-4), 2) := by decide +kernel
theorem dX3_hopFromAbove_19 : decode cX3_hopFromAbove 19 = .ok (.if_icmp .eq 5, 3) := by decide +kernel
theorem dX3_hopFromAbove_22 : decode cX3_hopFromAbove 22 = .ok (.iload_n 3, 1) := by decide +kernel
theorem dX3_hopFromAbove_23 : decode cX3_hopFromAbove 23 = .ok (.ireturn, 1) := by decide +kernel
theorem dX3_hopFromAbove_24 : decode cX3_hopFromAbove 24 = .ok (.iinc 2 1, 3) := by decide +kernel
theorem dX3_hopFromAbove_27 : decode cX3_hopFromAbove 27 = .ok (.goto (-25), 3) := by decide +kernel
theorem dX3_hopFromAbove_30 : decode cX3_hopFromAbove 30 = .ok (.iconst 0, 1) := by decide +kernel
theorem dX3_hopFromAbove_31 : decode cX3_hopFromAbove 31 = .ok (.ireturn, 1) := by decide +kernel
set_option maxRecDepth 20000 in
theorem ggX3_numberOf_X3_hopAt : GoodIn wsX3_numberOf wsX3_hopAt := goodIn_r _ [5, 6, 7, 8] (by decide +kernel) (by decide +kernel)
set_option maxRecDepth 20000 in
theorem gX3_numberOf_X3_hopAt : GoodIn wsX3_numberOf (wsV RX3 26 RX3 yX3_hopAt wsX3_hopAt) := goodIn_app (goodIn_of _ (by decide +kernel)) ggX3_numberOf_X3_hopAt
theorem dX3_numberOf_0 : decode cX3_numberOf 0 = .ok (.iconst 0, 1) := by decide +kernel
theorem dX3_numberOf_1 : decode cX3_numberOf 1 = .ok (.istore_n 2, 1) := by decide +kernel
theorem dX3_numberOf_2 : decode cX3_numberOf 2 = .ok (.iconst 1, 1) := by decide +kernel
theorem dX3_numberOf_3 : decode cX3_numberOf 3 = .ok (.istore_n 3, 1) := by decide +kernel
theorem dX3_numberOf_4 : decode cX3_numberOf 4 = .ok (.iload_n 3, 1) := by decide +kernel
theorem dX3_numberOf_5 : decode cX3_numberOf 5 = .ok (.sipush 512, 3) := by decide +kernel
theorem dX3_numberOf_8 : decode cX3_numberOf 8 = .ok (.if_icmp .ge 29, 3) := by decide +kernel
theorem dX3_numberOf_11 : decode cX3_numberOf 11 = .ok (.aload_n 0, 1) := by decide +kernel
theorem dX3_numberOf_12 : decode cX3_numberOf 12 = .ok (.iload_n 3, 1) := by decide +kernel
theorem dX3_numberOf_13 : decode cX3_numberOf 13 = .ok (.invokevirtual 26, 3) := by decide +kernel
theorem dX3_numberOf_16 : decode cX3_numberOf 16 = .ok (.bipush (-4), 2) := by decide +kernel
theorem dX3_numberOf_18 : decode cX3_numberOf 18 = .ok (.if_icmp .eq 13, 3) := by decide +kernel
theorem dX3_numberOf_21 : decode cX3_numberOf 21 = .ok (.iload_n 2, 1) := by decide +kernel
theorem dX3_numberOf_22 : decode cX3_numberOf 22 = .ok (.iload_n 1, 1) := by decide +kernel
theorem dX3_numberOf_23 : decode cX3_numberOf 23 = .ok (.if_icmp .ne 5, 3) := by decide +kernel
theorem dX3_numberOf_26 : decode cX3_numberOf 26 = .ok (.iload_n 3, 1) := by decide +kernel
theorem dX3_numberOf_27 : decode cX3_numberOf 27 = .ok (.ireturn, 1) := by decide +kernel
theorem dX3_numberOf_28 : decode cX3_numberOf 28 = .ok (.iinc 2 1, 3) := by decide +kernel
theorem dX3_numberOf_31 : decode cX3_numberOf 31 = .ok (.iinc 3 1, 3) := by decide +kernel
theorem dX3_numberOf_34 : decode cX3_numberOf 34 = .ok (.goto (-30), 3) := by decide +kernel
theorem dX3_numberOf_37 : decode cX3_numberOf 37 = .ok (.bipush (-4), 2) := by decide +kernel
theorem dX3_numberOf_39 : decode cX3_numberOf 39 = .ok (.ireturn, 1) := by decide +kernel
set_option maxRecDepth 20000 in
theorem ggX3_hasHop_X3_hopAt : GoodIn wsX3_hasHop wsX3_hopAt := goodIn_r _ [5, 6, 7, 8] (by decide +kernel) (by decide +kernel)
set_option maxRecDepth 20000 in
theorem gX3_hasHop_X3_hopAt : GoodIn wsX3_hasHop (wsV RX3 26 RX3 yX3_hopAt wsX3_hopAt) := goodIn_app (goodIn_of _ (by decide +kernel)) ggX3_hasHop_X3_hopAt
theorem dX3_hasHop_0 : decode cX3_hasHop 0 = .ok (.iconst 1, 1) := by decide +kernel
theorem dX3_hasHop_1 : decode cX3_hasHop 1 = .ok (.istore_n 2, 1) := by decide +kernel
theorem dX3_hasHop_2 : decode cX3_hasHop 2 = .ok (.iload_n 2, 1) := by decide +kernel
theorem dX3_hasHop_3 : decode cX3_hasHop 3 = .ok (.sipush 512, 3) := by decide +kernel
theorem dX3_hasHop_6 : decode cX3_hasHop 6 = .ok (.if_icmp .ge 20, 3) := by decide +kernel
theorem dX3_hasHop_9 : decode cX3_hasHop 9 = .ok (.aload_n 0, 1) := by decide +kernel
theorem dX3_hasHop_10 : decode cX3_hasHop 10 = .ok (.iload_n 2, 1) := by decide +kernel
theorem dX3_hasHop_11 : decode cX3_hasHop 11 = .ok (.invokevirtual 26, 3) := by decide +kernel
theorem dX3_hasHop_14 : decode cX3_hasHop 14 = .ok (.iload_n 1, 1) := by decide +kernel
theorem dX3_hasHop_15 : decode cX3_hasHop 15 = .ok (.if_icmp .ne 5, 3) := by decide +kernel
theorem dX3_hasHop_18 : decode cX3_hasHop 18 = .ok (.iconst 1, 1) := by decide +kernel
theorem dX3_hasHop_19 : decode cX3_hasHop 19 = .ok (.ireturn, 1) := by decide +kernel
theorem dX3_hasHop_20 : decode cX3_hasHop 20 = .ok (.iinc 2 1, 3) := by decide +kernel
theorem dX3_hasHop_23 : decode cX3_hasHop 23 = .ok (.goto (-21), 3) := by decide +kernel
theorem dX3_hasHop_26 : decode cX3_hasHop 26 = .ok (.iconst 0, 1) := by decide +kernel
theorem dX3_hasHop_27 : decode cX3_hasHop 27 = .ok (.ireturn, 1) := by decide +kernel
set_option maxRecDepth 20000 in
theorem ggX3_replaceHop_X3_hopAt : GoodIn wsX3_replaceHop wsX3_hopAt := goodIn_r _ [5, 6, 23, 24] (by decide +kernel) (by decide +kernel)
set_option maxRecDepth 20000 in
theorem gX3_replaceHop_X3_hopAt : GoodIn wsX3_replaceHop (wsV RX3 26 RX3 yX3_hopAt wsX3_hopAt) := goodIn_app (goodIn_of _ (by decide +kernel)) ggX3_replaceHop_X3_hopAt
set_option maxRecDepth 20000 in
theorem ggX3_replaceHop_X3_put : GoodIn wsX3_replaceHop wsX3_put := goodIn_r _ [10, 11, 12, 13, 14, 15, 16, 1, 2, 3, 4, 5, 6, 17, 18, 19, 20, 21, 22, 23, 24] (by decide +kernel) (by decide +kernel)
set_option maxRecDepth 20000 in
theorem gX3_replaceHop_X3_put : GoodIn wsX3_replaceHop (wsV RX3 49 RX3 yX3_put wsX3_put) := goodIn_app (goodIn_of _ (by decide +kernel)) ggX3_replaceHop_X3_put
theorem dX3_replaceHop_0 : decode cX3_replaceHop 0 = .ok (.iconst 0, 1) := by decide +kernel
theorem dX3_replaceHop_1 : decode cX3_replaceHop 1 = .ok (.istore_n 3, 1) := by decide +kernel
theorem dX3_replaceHop_2 : decode cX3_replaceHop 2 = .ok (.iconst 1, 1) := by decide +kernel
theorem dX3_replaceHop_3 : decode cX3_replaceHop 3 = .ok (.istore 4, 2) := by decide +kernel
theorem dX3_replaceHop_5 : decode cX3_replaceHop 5 = .ok (.iload 4, 2) := by decide +kernel
theorem dX3_replaceHop_7 : decode cX3_replaceHop 7 = .ok (.sipush 512, 3) := by decide +kernel
theorem dX3_replaceHop_10 : decode cX3_replaceHop 10 = .ok (.if_icmp .ge 29, 3) := by decide +kernel
theorem dX3_replaceHop_13 : decode cX3_replaceHop 13 = .ok (.aload_n 0, 1) := by decide +kernel
theorem dX3_replaceHop_14 : decode cX3_replaceHop 14 = .ok (.iload 4, 2) := by decide +kernel
theorem dX3_replaceHop_16 : decode cX3_replaceHop 16 = .ok (.invokevirtual 26, 3) := by decide +kernel
theorem dX3_replaceHop_19 : decode cX3_replaceHop 19 = .ok (.iload_n 1, 1) := by decide +kernel
theorem dX3_replaceHop_20 : decode cX3_replaceHop 20 = .ok (.if_icmp .ne 13, 3) := by decide +kernel
theorem dX3_replaceHop_23 : decode cX3_replaceHop 23 = .ok (.aload_n 0, 1) := by decide +kernel
theorem dX3_replaceHop_24 : decode cX3_replaceHop 24 = .ok (.iload 4, 2) := by decide +kernel
theorem dX3_replaceHop_26 : decode cX3_replaceHop 26 = .ok (.iload_n 2, 1) := by decide +kernel
theorem dX3_replaceHop_27 : decode cX3_replaceHop 27 = .ok (.invokevirtual 49, 3) := by decide +kernel
theorem dX3_replaceHop_30 : decode cX3_replaceHop 30 = .ok (.iinc 3 1, 3) := by decide +kernel
theorem dX3_replaceHop_33 : decode cX3_replaceHop 33 = .ok (.iinc 4 1, 3) := by decide +kernel
theorem dX3_replaceHop_36 : decode cX3_replaceHop 36 = .ok (.goto (-31), 3) := by decide +kernel
theorem dX3_replaceHop_39 : decode cX3_replaceHop 39 = .ok (.iload_n 3, 1) := by decide +kernel
theorem dX3_replaceHop_40 : decode cX3_replaceHop 40 = .ok (.ireturn, 1) := by decide +kernel
set_option maxRecDepth 20000 in
theorem ggX3_redundancyOf_X3_hopAt : GoodIn wsX3_redundancyOf wsX3_hopAt := goodIn_r _ [5, 6, 32, 33] (by decide +kernel) (by decide +kernel)
set_option maxRecDepth 20000 in
theorem gX3_redundancyOf_X3_hopAt : GoodIn wsX3_redundancyOf (wsV RX3 26 RX3 yX3_hopAt wsX3_hopAt) := goodIn_app (goodIn_of _ (by decide +kernel)) ggX3_redundancyOf_X3_hopAt
set_option maxRecDepth 20000 in
theorem ggX3_redundancyOf_X3_hopFromAbove : GoodIn wsX3_redundancyOf wsX3_hopFromAbove := goodIn_r _ [10, 1, 2, 3, 4, 5, 6, 32, 33] (by decide +kernel) (by decide +kernel)
set_option maxRecDepth 20000 in
theorem gX3_redundancyOf_X3_hopFromAbove : GoodIn wsX3_redundancyOf (wsV RX3 52 RX3 yX3_hopFromAbove wsX3_hopFromAbove) := goodIn_app (goodIn_of _ (by decide +kernel)) ggX3_redundancyOf_X3_hopFromAbove
set_option maxRecDepth 20000 in
theorem ggX3_redundancyOf_X3_decidesAny : GoodIn wsX3_redundancyOf wsX3_decidesAny := goodIn_r _ [14, 15, 16, 17, 18, 19, 20, 21, 22, 23, 24, 25, 26, 27, 28, 29, 30, 4, 31, 1, 2, 3, 5, 6, 32, 33] (by decide +kernel) (by decide +kernel)
set_option maxRecDepth 20000 in
theorem gX3_redundancyOf_X3_decidesAny : GoodIn wsX3_redundancyOf (wsV RX3 55 RX3 yX3_decidesAny wsX3_decidesAny) := goodIn_app (goodIn_of _ (by decide +kernel)) ggX3_redundancyOf_X3_decidesAny
theorem dX3_redundancyOf_0 : decode cX3_redundancyOf 0 = .ok (.aload_n 0, 1) := by decide +kernel
theorem dX3_redundancyOf_1 : decode cX3_redundancyOf 1 = .ok (.iload_n 1, 1) := by decide +kernel
theorem dX3_redundancyOf_2 : decode cX3_redundancyOf 2 = .ok (.invokevirtual 26, 3) := by decide +kernel
theorem dX3_redundancyOf_5 : decode cX3_redundancyOf 5 = .ok (.istore_n 2, 1) := by decide +kernel
theorem dX3_redundancyOf_6 : decode cX3_redundancyOf 6 = .ok (.iload_n 2, 1) := by decide +kernel
theorem dX3_redundancyOf_7 : decode cX3_redundancyOf 7 = .ok (.bipush (-4), 2) := by decide +kernel
theorem dX3_redundancyOf_9 : decode cX3_redundancyOf 9 = .ok (.if_icmp .ne 6, 3) := by decide +kernel
theorem dX3_redundancyOf_12 : decode cX3_redundancyOf 12 = .ok (.bipush (-4), 2) := by decide +kernel
theorem dX3_redundancyOf_14 : decode cX3_redundancyOf 14 = .ok (.ireturn, 1) := by decide +kernel
theorem dX3_redundancyOf_15 : decode cX3_redundancyOf 15 = .ok (.iload_n 2, 1) := by decide +kernel
theorem dX3_redundancyOf_16 : decode cX3_redundancyOf 16 = .ok (.aload_n 0, 1) := by decide +kernel
theorem dX3_redundancyOf_17 : decode cX3_redundancyOf 17 = .ok (.iload_n 1, 1) := by decide +kernel
theorem dX3_redundancyOf_18 : decode cX3_redundancyOf 18 = .ok (.invokevirtual 52, 3) := by decide +kernel
theorem dX3_redundancyOf_21 : decode cX3_redundancyOf 21 = .ok (.if_icmp .eq 11, 3) := by decide +kernel
theorem dX3_redundancyOf_24 : decode cX3_redundancyOf 24 = .ok (.aload_n 0, 1) := by decide +kernel
theorem dX3_redundancyOf_25 : decode cX3_redundancyOf 25 = .ok (.iload_n 1, 1) := by decide +kernel
theorem dX3_redundancyOf_26 : decode cX3_redundancyOf 26 = .ok (.invokevirtual 55, 3) := by decide +kernel
theorem dX3_redundancyOf_29 : decode cX3_redundancyOf 29 = .ok (.ifCond .ne 7, 3) := by decide +kernel
theorem dX3_redundancyOf_32 : decode cX3_redundancyOf 32 = .ok (.iconst 1, 1) := by decide +kernel
theorem dX3_redundancyOf_33 : decode cX3_redundancyOf 33 = .ok (.goto 4, 3) := by decide +kernel
theorem dX3_redundancyOf_36 : decode cX3_redundancyOf 36 = .ok (.iconst 0, 1) := by decide +kernel
theorem dX3_redundancyOf_37 : decode cX3_redundancyOf 37 = .ok (.ireturn, 1) := by decide +kernel
set_option maxRecDepth 20000 in
theorem ggX3_countRedundant_X3_redundancyOf : GoodIn wsX3_countRedundant wsX3_redundancyOf := goodIn_r _ [5, 6, 7, 8, 4, 9, 10, 11, 12, 13, 14, 15, 16, 17, 18, 19, 20, 21, 22, 23, 24, 25, 26, 27, 28, 29, 30, 31, 32, 33, 34, 35, 36, 37] (by decide +kernel) (by decide +kernel)
set_option maxRecDepth 20000 in
theorem gX3_countRedundant_X3_redundancyOf : GoodIn wsX3_countRedundant (wsV RX3 58 RX3 yX3_redundancyOf wsX3_redundancyOf) := goodIn_app (goodIn_of _ (by decide +kernel)) ggX3_countRedundant_X3_redundancyOf
theorem dX3_countRedundant_0 : decode cX3_countRedundant 0 = .ok (.iconst 0, 1) := by decide +kernel
theorem dX3_countRedundant_1 : decode cX3_countRedundant 1 = .ok (.istore_n 1, 1) := by decide +kernel
theorem dX3_countRedundant_2 : decode cX3_countRedundant 2 = .ok (.iconst 1, 1) := by decide +kernel
theorem dX3_countRedundant_3 : decode cX3_countRedundant 3 = .ok (.istore_n 2, 1) := by decide +kernel
theorem dX3_countRedundant_4 : decode cX3_countRedundant 4 = .ok (.iload_n 2, 1) := by decide +kernel
theorem dX3_countRedundant_5 : decode cX3_countRedundant 5 = .ok (.sipush 512, 3) := by decide +kernel
theorem dX3_countRedundant_8 : decode cX3_countRedundant 8 = .ok (.if_icmp .ge 21, 3) := by decide +kernel
theorem dX3_countRedundant_11 : decode cX3_countRedundant 11 = .ok (.aload_n 0, 1) := by decide +kernel
theorem dX3_countRedundant_12 : decode cX3_countRedundant 12 = .ok (.iload_n 2, 1) := by decide +kernel
theorem dX3_countRedundant_13 : decode cX3_countRedundant 13 = .ok (.invokevirtual 58, 3) := by decide +kernel
theorem dX3_countRedundant_16 : decode cX3_countRedundant 16 = .ok (.iconst 1, 1) := by decide +kernel
theorem dX3_countRedundant_17 : decode cX3_countRedundant 17 = .ok (.if_icmp .ne 6, 3) := by decide +kernel
theorem dX3_countRedundant_20 : decode cX3_countRedundant 20 = .ok (.iinc 1 1, 3) := by decide +kernel
theorem dX3_countRedundant_23 : decode cX3_countRedundant 23 = .ok (.iinc 2 1, 3) := by decide +kernel
theorem dX3_countRedundant_26 : decode cX3_countRedundant 26 = .ok (.goto (-22), 3) := by decide +kernel
theorem dX3_countRedundant_29 : decode cX3_countRedundant 29 = .ok (.iload_n 1, 1) := by decide +kernel
theorem dX3_countRedundant_30 : decode cX3_countRedundant 30 = .ok (.ireturn, 1) := by decide +kernel
set_option maxRecDepth 20000 in
theorem ggX3_decidesAny_X6_firstAddress : GoodIn wsX3_decidesAny wsX6_firstAddress := goodIn_r _ [3, 4, 5, 2, 6, 7, 8, 9, 10, 11] (by decide +kernel) (by decide +kernel)
set_option maxRecDepth 20000 in
theorem gX3_decidesAny_X6_firstAddress_n61 : GoodIn wsX3_decidesAny (wsX6_firstAddress) := ggX3_decidesAny_X6_firstAddress
set_option maxRecDepth 20000 in
theorem ggX3_decidesAny_X6_howManyAddresses : GoodIn wsX3_decidesAny wsX6_howManyAddresses := goodIn_r _ [13, 4, 5, 2, 6, 7, 8, 9, 10, 11] (by decide +kernel) (by decide +kernel)
set_option maxRecDepth 20000 in
theorem gX3_decidesAny_X6_howManyAddresses_n64 : GoodIn wsX3_decidesAny (wsX6_howManyAddresses) := ggX3_decidesAny_X6_howManyAddresses
set_option maxRecDepth 20000 in
theorem ggX3_decidesAny_X3_deciderOf : GoodIn wsX3_decidesAny wsX3_deciderOf := goodIn_r _ [18, 19, 20, 21, 17, 22, 23, 24, 25] (by decide +kernel) (by decide +kernel)
set_option maxRecDepth 20000 in
theorem gX3_decidesAny_X3_deciderOf : GoodIn wsX3_decidesAny (wsV RX3 46 RX3 yX3_deciderOf wsX3_deciderOf) := goodIn_app (goodIn_of _ (by decide +kernel)) ggX3_decidesAny_X3_deciderOf
theorem dX3_decidesAny_0 : decode cX3_decidesAny 0 = .ok (.iload_n 1, 1) := by decide +kernel
theorem dX3_decidesAny_1 : decode cX3_decidesAny 1 = .ok (.invokestatic 61, 3) := by decide +kernel
theorem dX3_decidesAny_4 : decode cX3_decidesAny 4 = .ok (.istore_n 2, 1) := by decide +kernel
theorem dX3_decidesAny_5 : decode cX3_decidesAny 5 = .ok (.iload_n 2, 1) := by decide +kernel
theorem dX3_decidesAny_6 : decode cX3_decidesAny 6 = .ok (.iload_n 1, 1) := by decide +kernel
theorem dX3_decidesAny_7 : decode cX3_decidesAny 7 = .ok (.invokestatic 64, 3) := by decide +kernel
theorem dX3_decidesAny_10 : decode cX3_decidesAny 10 = .ok (.iadd, 1) := by decide +kernel
theorem dX3_decidesAny_11 : decode cX3_decidesAny 11 = .ok (.istore_n 3, 1) := by decide +kernel
theorem dX3_decidesAny_12 : decode cX3_decidesAny 12 = .ok (.iload_n 2, 1) := by decide +kernel
theorem dX3_decidesAny_13 : decode cX3_decidesAny 13 = .ok (.istore 4, 2) := by decide +kernel
theorem dX3_decidesAny_15 : decode cX3_decidesAny 15 = .ok (.iload 4, 2) := by decide +kernel
theorem dX3_decidesAny_17 : decode cX3_decidesAny 17 = .ok (.iload_n 3, 1) := by decide +kernel
theorem dX3_decidesAny_18 : decode cX3_decidesAny 18 = .ok (.if_icmp .ge 21, 3) := by decide +kernel
theorem dX3_decidesAny_21 : decode cX3_decidesAny 21 = .ok (.aload_n 0, 1) := by decide +kernel
theorem dX3_decidesAny_22 : decode cX3_decidesAny 22 = .ok (.iload 4, 2) := by decide +kernel
theorem dX3_decidesAny_24 : decode cX3_decidesAny 24 = .ok (.invokevirtual 46, 3) := by decide +kernel
theorem dX3_decidesAny_27 : decode cX3_decidesAny 27 = .ok (.iload_n 1, 1) := by decide +kernel
theorem dX3_decidesAny_28 : decode cX3_decidesAny 28 = .ok (.if_icmp .ne 5, 3) := by decide +kernel
theorem dX3_decidesAny_31 : decode cX3_decidesAny 31 = .ok (.iconst 1, 1) := by decide +kernel
theorem dX3_decidesAny_32 : decode cX3_decidesAny 32 = .ok (.ireturn, 1) := by decide +kernel
theorem dX3_decidesAny_33 : decode cX3_decidesAny 33 = .ok (.iinc 4 1, 3) := by decide +kernel
theorem dX3_decidesAny_36 : decode cX3_decidesAny 36 = .ok (.goto (-21), 3) := by decide +kernel
theorem dX3_decidesAny_39 : decode cX3_decidesAny 39 = .ok (.iconst 0, 1) := by decide +kernel
theorem dX3_decidesAny_40 : decode cX3_decidesAny 40 = .ok (.ireturn, 1) := by decide +kernel
theorem dX3_setPlace_0 : decode cX3_setPlace 0 = .ok (.iload_n 1, 1) := by decide +kernel
theorem dX3_setPlace_1 : decode cX3_setPlace 1 = .ok (.iconst 1, 1) := by decide +kernel
theorem dX3_setPlace_2 : decode cX3_setPlace 2 = .ok (.if_icmp .lt 48, 3) := by decide +kernel
theorem dX3_setPlace_5 : decode cX3_setPlace 5 = .ok (.iload_n 1, 1) := by decide +kernel
theorem dX3_setPlace_6 : decode cX3_setPlace 6 = .ok (.sipush 512, 3) := by decide +kernel
theorem dX3_setPlace_9 : decode cX3_setPlace 9 = .ok (.if_icmp .ge 41, 3) := by decide +kernel
theorem dX3_setPlace_12 : decode cX3_setPlace 12 = .ok (.iconst 4, 1) := by decide +kernel
theorem dX3_setPlace_13 : decode cX3_setPlace 13 = .ok (.iload_n 1, 1) := by decide +kernel
theorem dX3_setPlace_14 : decode cX3_setPlace 14 = .ok (.bipush 15, 2) := by decide +kernel
theorem dX3_setPlace_16 : decode cX3_setPlace 16 = .ok (.iand, 1) := by decide +kernel
theorem dX3_setPlace_17 : decode cX3_setPlace 17 = .ok (.imul, 1) := by decide +kernel
theorem dX3_setPlace_18 : decode cX3_setPlace 18 = .ok (.istore_n 3, 1) := by decide +kernel
theorem dX3_setPlace_19 : decode cX3_setPlace 19 = .ok (.aload_n 0, 1) := by decide +kernel
theorem dX3_setPlace_20 : decode cX3_setPlace 20 = .ok (.getfield 9, 3) := by decide +kernel
theorem dX3_setPlace_23 : decode cX3_setPlace 23 = .ok (.iload_n 1, 1) := by decide +kernel
theorem dX3_setPlace_24 : decode cX3_setPlace 24 = .ok (.iconst 4, 1) := by decide +kernel
theorem dX3_setPlace_25 : decode cX3_setPlace 25 = .ok (.ishr, 1) := by decide +kernel
theorem dX3_setPlace_26 : decode cX3_setPlace 26 = .ok (.aload_n 0, 1) := by decide +kernel
theorem dX3_setPlace_27 : decode cX3_setPlace 27 = .ok (.getfield 9, 3) := by decide +kernel
theorem dX3_setPlace_30 : decode cX3_setPlace 30 = .ok (.iload_n 1, 1) := by decide +kernel
theorem dX3_setPlace_31 : decode cX3_setPlace 31 = .ok (.iconst 4, 1) := by decide +kernel
theorem dX3_setPlace_32 : decode cX3_setPlace 32 = .ok (.ishr, 1) := by decide +kernel
theorem dX3_setPlace_33 : decode cX3_setPlace 33 = .ok (.laload, 1) := by decide +kernel
theorem dX3_setPlace_34 : decode cX3_setPlace 34 = .ok (.ldc2_w 67, 3) := by decide +kernel
theorem dX3_setPlace_37 : decode cX3_setPlace 37 = .ok (.iload_n 3, 1) := by decide +kernel
theorem dX3_setPlace_38 : decode cX3_setPlace 38 = .ok (.lshl, 1) := by decide +kernel
theorem dX3_setPlace_39 : decode cX3_setPlace 39 = .ok (.ldc2_w 69, 3) := by decide +kernel
theorem dX3_setPlace_42 : decode cX3_setPlace 42 = .ok (.lxor, 1) := by decide +kernel
theorem dX3_setPlace_43 : decode cX3_setPlace 43 = .ok (.land, 1) := by decide +kernel
theorem dX3_setPlace_44 : decode cX3_setPlace 44 = .ok (.iload_n 2, 1) := by decide +kernel
theorem dX3_setPlace_45 : decode cX3_setPlace 45 = .ok (.i2l, 1) := by decide +kernel
theorem dX3_setPlace_46 : decode cX3_setPlace 46 = .ok (.iload_n 3, 1) := by decide +kernel
theorem dX3_setPlace_47 : decode cX3_setPlace 47 = .ok (.lshl, 1) := by decide +kernel
theorem dX3_setPlace_48 : decode cX3_setPlace 48 = .ok (.lor, 1) := by decide +kernel
theorem dX3_setPlace_49 : decode cX3_setPlace 49 = .ok (.lastore, 1) := by decide +kernel
theorem dX3_setPlace_50 : decode cX3_setPlace 50 = .ok (.return_, 1) := by decide +kernel
set_option maxRecDepth 20000 in
theorem ggX4_init_X3_init : GoodIn wsX4_init wsX3_init := goodIn_r _ [14, 15, 2, 3, 16, 17, 18, 24, 25] (by decide +kernel) (by decide +kernel)
set_option maxRecDepth 20000 in
theorem gX4_init_X3_init_n17 : GoodIn wsX4_init (wsX3_init) := ggX4_init_X3_init
theorem dX4_init_0 : decode cX4_init 0 = .ok (.aload_n 0, 1) := by decide +kernel
theorem dX4_init_1 : decode cX4_init 1 = .ok (.invokespecial 3, 3) := by decide +kernel
theorem dX4_init_4 : decode cX4_init 4 = .ok (.aload_n 0, 1) := by decide +kernel
theorem dX4_init_5 : decode cX4_init 5 = .ok (.bipush 100, 2) := by decide +kernel
theorem dX4_init_7 : decode cX4_init 7 = .ok (.newarray .int, 2) := by decide +kernel
theorem dX4_init_9 : decode cX4_init 9 = .ok (.putfield 9, 3) := by decide +kernel
theorem dX4_init_12 : decode cX4_init 12 = .ok (.aload_n 0, 1) := by decide +kernel
theorem dX4_init_13 : decode cX4_init 13 = .ok (.new 15, 3) := by decide +kernel
theorem dX4_init_16 : decode cX4_init 16 = .ok (.dup, 1) := by decide +kernel
theorem dX4_init_17 : decode cX4_init 17 = .ok (.invokespecial 17, 3) := by decide +kernel
theorem dX4_init_20 : decode cX4_init 20 = .ok (.putfield 18, 3) := by decide +kernel
theorem dX4_init_23 : decode cX4_init 23 = .ok (.aload_n 0, 1) := by decide +kernel
theorem dX4_init_24 : decode cX4_init 24 = .ok (.iconst 0, 1) := by decide +kernel
theorem dX4_init_25 : decode cX4_init 25 = .ok (.putfield 22, 3) := by decide +kernel
theorem dX4_init_28 : decode cX4_init 28 = .ok (.aload_n 0, 1) := by decide +kernel
theorem dX4_init_29 : decode cX4_init 29 = .ok (.iconst 0, 1) := by decide +kernel
theorem dX4_init_30 : decode cX4_init 30 = .ok (.putfield 26, 3) := by decide +kernel
theorem dX4_init_33 : decode cX4_init 33 = .ok (.aload_n 0, 1) := by decide +kernel
theorem dX4_init_34 : decode cX4_init 34 = .ok (.iconst 1, 1) := by decide +kernel
theorem dX4_init_35 : decode cX4_init 35 = .ok (.putfield 29, 3) := by decide +kernel
theorem dX4_init_38 : decode cX4_init 38 = .ok (.return_, 1) := by decide +kernel
theorem dX4_addLetter_0 : decode cX4_addLetter 0 = .ok (.aload_n 0, 1) := by decide +kernel
theorem dX4_addLetter_1 : decode cX4_addLetter 1 = .ok (.getfield 22, 3) := by decide +kernel
theorem dX4_addLetter_4 : decode cX4_addLetter 4 = .ok (.bipush 100, 2) := by decide +kernel
theorem dX4_addLetter_6 : decode cX4_addLetter 6 = .ok (.if_icmp .lt 6, 3) := by decide +kernel
theorem dX4_addLetter_9 : decode cX4_addLetter 9 = .ok (.bipush (-3), 2) := by decide +kernel
theorem dX4_addLetter_11 : decode cX4_addLetter 11 = .ok (.ireturn, 1) := by decide +kernel
theorem dX4_addLetter_12 : decode cX4_addLetter 12 = .ok (.aload_n 0, 1) := by decide +kernel
theorem dX4_addLetter_13 : decode cX4_addLetter 13 = .ok (.getfield 9, 3) := by decide +kernel
theorem dX4_addLetter_16 : decode cX4_addLetter 16 = .ok (.aload_n 0, 1) := by decide +kernel
theorem dX4_addLetter_17 : decode cX4_addLetter 17 = .ok (.getfield 22, 3) := by decide +kernel
theorem dX4_addLetter_20 : decode cX4_addLetter 20 = .ok (.iload_n 1, 1) := by decide +kernel
theorem dX4_addLetter_21 : decode cX4_addLetter 21 = .ok (.iastore, 1) := by decide +kernel
theorem dX4_addLetter_22 : decode cX4_addLetter 22 = .ok (.aload_n 0, 1) := by decide +kernel
theorem dX4_addLetter_23 : decode cX4_addLetter 23 = .ok (.dup, 1) := by decide +kernel
theorem dX4_addLetter_24 : decode cX4_addLetter 24 = .ok (.getfield 22, 3) := by decide +kernel
theorem dX4_addLetter_27 : decode cX4_addLetter 27 = .ok (.iconst 1, 1) := by decide +kernel
theorem dX4_addLetter_28 : decode cX4_addLetter 28 = .ok (.iadd, 1) := by decide +kernel
theorem dX4_addLetter_29 : decode cX4_addLetter 29 = .ok (.putfield 22, 3) := by decide +kernel
theorem dX4_addLetter_32 : decode cX4_addLetter 32 = .ok (.aload_n 0, 1) := by decide +kernel
theorem dX4_addLetter_33 : decode cX4_addLetter 33 = .ok (.getfield 22, 3) := by decide +kernel
theorem dX4_addLetter_36 : decode cX4_addLetter 36 = .ok (.ireturn, 1) := by decide +kernel
theorem dX4_makeEmpty_0 : decode cX4_makeEmpty 0 = .ok (.aload_n 0, 1) := by decide +kernel
theorem dX4_makeEmpty_1 : decode cX4_makeEmpty 1 = .ok (.iconst 0, 1) := by decide +kernel
theorem dX4_makeEmpty_2 : decode cX4_makeEmpty 2 = .ok (.putfield 22, 3) := by decide +kernel
theorem dX4_makeEmpty_5 : decode cX4_makeEmpty 5 = .ok (.return_, 1) := by decide +kernel
theorem dX4_toldTable_0 : decode cX4_toldTable 0 = .ok (.aload_n 0, 1) := by decide +kernel
theorem dX4_toldTable_1 : decode cX4_toldTable 1 = .ok (.getfield 18, 3) := by decide +kernel
theorem dX4_toldTable_4 : decode cX4_toldTable 4 = .ok (.areturn, 1) := by decide +kernel
set_option maxRecDepth 20000 in
theorem ggX4_parse_X3_makeEmpty : GoodIn wsX4_parse wsX3_makeEmpty := goodIn_r _ [7, 8, 9, 10, 11, 12, 13, 55, 56] (by decide +kernel) (by decide +kernel)
set_option maxRecDepth 20000 in
theorem gX4_parse_X3_makeEmpty : GoodIn wsX4_parse (wsV RX4 32 RX3 yX3_makeEmpty wsX3_makeEmpty) := goodIn_app (goodIn_of _ (by decide +kernel)) ggX4_parse_X3_makeEmpty
set_option maxRecDepth 20000 in
theorem ggX4_parse_X4_parseEntry : GoodIn wsX4_parse wsX4_parseEntry := goodIn_r _ [18, 2, 1, 19, 20, 21, 22, 17, 23, 24, 25, 26, 27, 28, 29, 30, 31, 32, 6, 33, 8, 34, 35, 36, 37, 38, 39, 40, 9, 41, 42, 43, 44, 45, 46, 47, 48, 49, 50, 51, 52, 53, 54, 55, 56] (by decide +kernel) (by decide +kernel)
set_option maxRecDepth 20000 in
theorem gX4_parse_X4_parseEntry : GoodIn wsX4_parse (wsV RX4 35 RX4 yX4_parseEntry wsX4_parseEntry) := goodIn_app (goodIn_of _ (by decide +kernel)) ggX4_parse_X4_parseEntry
set_option maxRecDepth 20000 in
theorem ggX4_parse_X4_letterHere : GoodIn wsX4_parse wsX4_letterHere := goodIn_r _ [23, 2, 24, 25, 50, 51, 52, 53, 54] (by decide +kernel) (by decide +kernel)
set_option maxRecDepth 20000 in
theorem gX4_parse_X4_letterHere : GoodIn wsX4_parse (wsV RX4 39 RX4 yX4_letterHere wsX4_letterHere) := goodIn_app (goodIn_of _ (by decide +kernel)) ggX4_parse_X4_letterHere
theorem dX4_parse_0 : decode cX4_parse 0 = .ok (.aload_n 0, 1) := by decide +kernel
theorem dX4_parse_1 : decode cX4_parse 1 = .ok (.getfield 18, 3) := by decide +kernel
theorem dX4_parse_4 : decode cX4_parse 4 = .ok (.invokevirtual 32, 3) := by decide +kernel
theorem dX4_parse_7 : decode cX4_parse 7 = .ok (.aload_n 0, 1) := by decide +kernel
theorem dX4_parse_8 : decode cX4_parse 8 = .ok (.iconst 0, 1) := by decide +kernel
theorem dX4_parse_9 : decode cX4_parse 9 = .ok (.putfield 26, 3) := by decide +kernel
theorem dX4_parse_12 : decode cX4_parse 12 = .ok (.iconst 0, 1) := by decide +kernel
theorem dX4_parse_13 : decode cX4_parse 13 = .ok (.istore_n 1, 1) := by decide +kernel
theorem dX4_parse_14 : decode cX4_parse 14 = .ok (.iload_n 1, 1) := by decide +kernel
theorem dX4_parse_15 : decode cX4_parse 15 = .ok (.bipush 100, 2) := by decide +kernel
theorem dX4_parse_17 : decode cX4_parse 17 = .ok (.if_icmp .gt 56, 3) := by decide +kernel
theorem dX4_parse_20 : decode cX4_parse 20 = .ok (.aload_n 0, 1) := by decide +kernel
theorem dX4_parse_21 : decode cX4_parse 21 = .ok (.invokevirtual 35, 3) := by decide +kernel
theorem dX4_parse_24 : decode cX4_parse 24 = .ok (.istore_n 2, 1) := by decide +kernel
theorem dX4_parse_25 : decode cX4_parse 25 = .ok (.iload_n 2, 1) := by decide +kernel
theorem dX4_parse_26 : decode cX4_parse 26 = .ok (.bipush (-4), 2) := by decide +kernel
theorem dX4_parse_28 : decode cX4_parse 28 = .ok (.if_icmp .eq 5, 3) := by decide +kernel
theorem dX4_parse_31 : decode cX4_parse 31 = .ok (.iload_n 2, 1) := by decide +kernel
theorem dX4_parse_32 : decode cX4_parse 32 = .ok (.ireturn, 1) := by decide +kernel
theorem dX4_parse_33 : decode cX4_parse 33 = .ok (.aload_n 0, 1) := by decide +kernel
theorem dX4_parse_34 : decode cX4_parse 34 = .ok (.invokevirtual 39, 3) := by decide +kernel
theorem dX4_parse_37 : decode cX4_parse 37 = .ok (.istore_n 3, 1) := by decide +kernel
theorem dX4_parse_38 : decode cX4_parse 38 = .ok (.iload_n 3, 1) := by decide +kernel
theorem dX4_parse_39 : decode cX4_parse 39 = .ok (.iconst (-1), 1) := by decide +kernel
theorem dX4_parse_40 : decode cX4_parse 40 = .ok (.if_icmp .ne 6, 3) := by decide +kernel
theorem dX4_parse_43 : decode cX4_parse 43 = .ok (.bipush (-4), 2) := by decide +kernel
theorem dX4_parse_45 : decode cX4_parse 45 = .ok (.ireturn, 1) := by decide +kernel
theorem dX4_parse_46 : decode cX4_parse 46 = .ok (.iload_n 3, 1) := by decide +kernel
theorem dX4_parse_47 : decode cX4_parse 47 = .ok (.bipush 59, 2) := by decide +kernel
theorem dX4_parse_49 : decode cX4_parse 49 = .ok (.if_icmp .eq 8, 3) := by decide +kernel
theorem dX4_parse_52 : decode cX4_parse 52 = .ok (.aload_n 0, 1) := by decide +kernel
theorem dX4_parse_53 : decode cX4_parse 53 = .ok (.getfield 26, 3) := by decide +kernel
theorem dX4_parse_56 : decode cX4_parse 56 = .ok (.ireturn, 1) := by decide +kernel
theorem dX4_parse_57 : decode cX4_parse 57 = .ok (.aload_n 0, 1) := by decide +kernel
theorem dX4_parse_58 : decode cX4_parse 58 = .ok (.dup, 1) := by decide +kernel
theorem dX4_parse_59 : decode cX4_parse 59 = .ok (.getfield 26, 3) := by decide +kernel
theorem dX4_parse_62 : decode cX4_parse 62 = .ok (.iconst 1, 1) := by decide +kernel
theorem dX4_parse_63 : decode cX4_parse 63 = .ok (.iadd, 1) := by decide +kernel
theorem dX4_parse_64 : decode cX4_parse 64 = .ok (.putfield 26, 3) := by decide +kernel
theorem dX4_parse_67 : decode cX4_parse 67 = .ok (.iinc 1 1, 3) := by decide +kernel
theorem dX4_parse_70 : decode cX4_parse 70 = .ok (.goto (-56), 3) := by decide +kernel
theorem dX4_parse_73 : decode cX4_parse 73 = .ok (.aload_n 0, 1) := by decide +kernel
theorem dX4_parse_74 : decode cX4_parse 74 = .ok (.getfield 26, 3) := by decide +kernel
theorem dX4_parse_77 : decode cX4_parse 77 = .ok (.ireturn, 1) := by decide +kernel
set_option maxRecDepth 20000 in
theorem ggX4_parseEntry_X4_letterHere : GoodIn wsX4_parseEntry wsX4_letterHere := goodIn_r _ [8, 1, 9, 10, 38, 39, 40, 41, 42] (by decide +kernel) (by decide +kernel)
set_option maxRecDepth 20000 in
theorem gX4_parseEntry_X4_letterHere : GoodIn wsX4_parseEntry (wsV RX4 39 RX4 yX4_letterHere wsX4_letterHere) := goodIn_app (goodIn_of _ (by decide +kernel)) ggX4_parseEntry_X4_letterHere
set_option maxRecDepth 20000 in
theorem ggX4_parseEntry_X4_parseFigures : GoodIn wsX4_parseEntry wsX4_parseFigures := goodIn_r _ [14, 3, 1, 4, 5, 6, 7, 8, 9, 10, 38, 39, 40, 41, 42] (by decide +kernel) (by decide +kernel)
set_option maxRecDepth 20000 in
theorem gX4_parseEntry_X4_parseFigures : GoodIn wsX4_parseEntry (wsV RX4 42 RX4 yX4_parseFigures wsX4_parseFigures) := goodIn_app (goodIn_of _ (by decide +kernel)) ggX4_parseEntry_X4_parseFigures
set_option maxRecDepth 20000 in
theorem ggX4_parseEntry_X3_hopAt : GoodIn wsX4_parseEntry wsX3_hopAt := goodIn_r _ [19, 20, 43, 44] (by decide +kernel) (by decide +kernel)
set_option maxRecDepth 20000 in
theorem gX4_parseEntry_X3_hopAt : GoodIn wsX4_parseEntry (wsV RX4 45 RX3 yX3_hopAt wsX3_hopAt) := goodIn_app (goodIn_of _ (by decide +kernel)) ggX4_parseEntry_X3_hopAt
set_option maxRecDepth 20000 in
theorem ggX4_parseEntry_X6_isHop : GoodIn wsX4_parseEntry wsX6_isHop := goodIn_r _ [23] (by decide +kernel) (by decide +kernel)
set_option maxRecDepth 20000 in
theorem gX4_parseEntry_X6_isHop_n49 : GoodIn wsX4_parseEntry (wsX6_isHop) := ggX4_parseEntry_X6_isHop
set_option maxRecDepth 20000 in
theorem ggX4_parseEntry_X3_put : GoodIn wsX4_parseEntry wsX3_put := goodIn_r _ [27, 28, 29, 22, 30, 21, 23, 31, 16, 17, 18, 19, 20, 32, 33, 34, 35, 36, 37, 43, 44] (by decide +kernel) (by decide +kernel)
set_option maxRecDepth 20000 in
theorem gX4_parseEntry_X3_put : GoodIn wsX4_parseEntry (wsV RX4 53 RX3 yX3_put wsX3_put) := goodIn_app (goodIn_of _ (by decide +kernel)) ggX4_parseEntry_X3_put
theorem dX4_parseEntry_0 : decode cX4_parseEntry 0 = .ok (.aload_n 0, 1) := by decide +kernel
theorem dX4_parseEntry_1 : decode cX4_parseEntry 1 = .ok (.invokevirtual 39, 3) := by decide +kernel
theorem dX4_parseEntry_4 : decode cX4_parseEntry 4 = .ok (.pop, 1) := by decide +kernel
theorem dX4_parseEntry_5 : decode cX4_parseEntry 5 = .ok (.aload_n 0, 1) := by decide +kernel
theorem dX4_parseEntry_6 : decode cX4_parseEntry 6 = .ok (.getfield 26, 3) := by decide +kernel
theorem dX4_parseEntry_9 : decode cX4_parseEntry 9 = .ok (.istore_n 1, 1) := by decide +kernel
theorem dX4_parseEntry_10 : decode cX4_parseEntry 10 = .ok (.aload_n 0, 1) := by decide +kernel
theorem dX4_parseEntry_11 : decode cX4_parseEntry 11 = .ok (.invokevirtual 42, 3) := by decide +kernel
theorem dX4_parseEntry_14 : decode cX4_parseEntry 14 = .ok (.bipush 8, 2) := by decide +kernel
theorem dX4_parseEntry_16 : decode cX4_parseEntry 16 = .ok (.if_icmp .ge 27, 3) := by decide +kernel
theorem dX4_parseEntry_19 : decode cX4_parseEntry 19 = .ok (.aload_n 0, 1) := by decide +kernel
theorem dX4_parseEntry_20 : decode cX4_parseEntry 20 = .ok (.invokevirtual 39, 3) := by decide +kernel
theorem dX4_parseEntry_23 : decode cX4_parseEntry 23 = .ok (.bipush 42, 2) := by decide +kernel
theorem dX4_parseEntry_25 : decode cX4_parseEntry 25 = .ok (.if_icmp .eq 8, 3) := by decide +kernel
theorem dX4_parseEntry_28 : decode cX4_parseEntry 28 = .ok (.aload_n 0, 1) := by decide +kernel
theorem dX4_parseEntry_29 : decode cX4_parseEntry 29 = .ok (.getfield 26, 3) := by decide +kernel
theorem dX4_parseEntry_32 : decode cX4_parseEntry 32 = .ok (.ireturn, 1) := by decide +kernel
theorem dX4_parseEntry_33 : decode cX4_parseEntry 33 = .ok (.aload_n 0, 1) := by decide +kernel
theorem dX4_parseEntry_34 : decode cX4_parseEntry 34 = .ok (.dup, 1) := by decide +kernel
theorem dX4_parseEntry_35 : decode cX4_parseEntry 35 = .ok (.getfield 26, 3) := by decide +kernel
theorem dX4_parseEntry_38 : decode cX4_parseEntry 38 = .ok (.iconst 1, 1) := by decide +kernel
theorem dX4_parseEntry_39 : decode cX4_parseEntry 39 = .ok (.iadd, 1) := by decide +kernel
theorem dX4_parseEntry_40 : decode cX4_parseEntry 40 = .ok (.putfield 26, 3) := by decide +kernel
theorem dX4_parseEntry_43 : decode cX4_parseEntry 43 = .ok (.aload_n 0, 1) := by decide +kernel
theorem dX4_parseEntry_44 : decode cX4_parseEntry 44 = .ok (.invokevirtual 39, 3) := by decide +kernel
theorem dX4_parseEntry_47 : decode cX4_parseEntry 47 = .ok (.bipush 58, 2) := by decide +kernel
theorem dX4_parseEntry_49 : decode cX4_parseEntry 49 = .ok (.if_icmp .eq 8, 3) := by decide +kernel
theorem dX4_parseEntry_52 : decode cX4_parseEntry 52 = .ok (.aload_n 0, 1) := by decide +kernel
theorem dX4_parseEntry_53 : decode cX4_parseEntry 53 = .ok (.getfield 26, 3) := by decide +kernel
theorem dX4_parseEntry_56 : decode cX4_parseEntry 56 = .ok (.ireturn, 1) := by decide +kernel
theorem dX4_parseEntry_57 : decode cX4_parseEntry 57 = .ok (.aload_n 0, 1) := by decide +kernel
theorem dX4_parseEntry_58 : decode cX4_parseEntry 58 = .ok (.dup, 1) := by decide +kernel
theorem dX4_parseEntry_59 : decode cX4_parseEntry 59 = .ok (.getfield 26, 3) := by decide +kernel
theorem dX4_parseEntry_62 : decode cX4_parseEntry 62 = .ok (.iconst 1, 1) := by decide +kernel
theorem dX4_parseEntry_63 : decode cX4_parseEntry 63 = .ok (.iadd, 1) := by decide +kernel
theorem dX4_parseEntry_64 : decode cX4_parseEntry 64 = .ok (.putfield 26, 3) := by decide +kernel
theorem dX4_parseEntry_67 : decode cX4_parseEntry 67 = .ok (.aload_n 0, 1) := by decide +kernel
theorem dX4_parseEntry_68 : decode cX4_parseEntry 68 = .ok (.getfield 18, 3) := by decide +kernel
theorem dX4_parseEntry_71 : decode cX4_parseEntry 71 = .ok (.aload_n 0, 1) := by decide +kernel
theorem dX4_parseEntry_72 : decode cX4_parseEntry 72 = .ok (.getfield 29, 3) := by decide +kernel
theorem dX4_parseEntry_75 : decode cX4_parseEntry 75 = .ok (.invokevirtual 45, 3) := by decide +kernel
theorem dX4_parseEntry_78 : decode cX4_parseEntry 78 = .ok (.bipush (-4), 2) := by decide +kernel
theorem dX4_parseEntry_80 : decode cX4_parseEntry 80 = .ok (.if_icmp .eq 5, 3) := by decide +kernel
theorem dX4_parseEntry_83 : decode cX4_parseEntry 83 = .ok (.iload_n 1, 1) := by decide +kernel
theorem dX4_parseEntry_84 : decode cX4_parseEntry 84 = .ok (.ireturn, 1) := by decide +kernel
theorem dX4_parseEntry_85 : decode cX4_parseEntry 85 = .ok (.aload_n 0, 1) := by decide +kernel
theorem dX4_parseEntry_86 : decode cX4_parseEntry 86 = .ok (.invokevirtual 39, 3) := by decide +kernel
theorem dX4_parseEntry_89 : decode cX4_parseEntry 89 = .ok (.bipush 48, 2) := by decide +kernel
theorem dX4_parseEntry_91 : decode cX4_parseEntry 91 = .ok (.isub, 1) := by decide +kernel
theorem dX4_parseEntry_92 : decode cX4_parseEntry 92 = .ok (.istore_n 2, 1) := by decide +kernel
theorem dX4_parseEntry_93 : decode cX4_parseEntry 93 = .ok (.iload_n 2, 1) := by decide +kernel
theorem dX4_parseEntry_94 : decode cX4_parseEntry 94 = .ok (.invokestatic 49, 3) := by decide +kernel
theorem dX4_parseEntry_97 : decode cX4_parseEntry 97 = .ok (.ifCond .ne 8, 3) := by decide +kernel
theorem dX4_parseEntry_100 : decode cX4_parseEntry 100 = .ok (.aload_n 0, 1) := by decide +kernel
theorem dX4_parseEntry_101 : decode cX4_parseEntry 101 = .ok (.getfield 26, 3) := by decide +kernel
theorem dX4_parseEntry_104 : decode cX4_parseEntry 104 = .ok (.ireturn, 1) := by decide +kernel
theorem dX4_parseEntry_105 : decode cX4_parseEntry 105 = .ok (.aload_n 0, 1) := by decide +kernel
theorem dX4_parseEntry_106 : decode cX4_parseEntry 106 = .ok (.dup, 1) := by decide +kernel
theorem dX4_parseEntry_107 : decode cX4_parseEntry 107 = .ok (.getfield 26, 3) := by decide +kernel
theorem dX4_parseEntry_110 : decode cX4_parseEntry 110 = .ok (.iconst 1, 1) := by decide +kernel
theorem dX4_parseEntry_111 : decode cX4_parseEntry 111 = .ok (.iadd, 1) := by decide +kernel
theorem dX4_parseEntry_112 : decode cX4_parseEntry 112 = .ok (.putfield 26, 3) := by decide +kernel
theorem dX4_parseEntry_115 : decode cX4_parseEntry 115 = .ok (.aload_n 0, 1) := by decide +kernel
theorem dX4_parseEntry_116 : decode cX4_parseEntry 116 = .ok (.getfield 18, 3) := by decide +kernel
theorem dX4_parseEntry_119 : decode cX4_parseEntry 119 = .ok (.aload_n 0, 1) := by decide +kernel
theorem dX4_parseEntry_120 : decode cX4_parseEntry 120 = .ok (.getfield 29, 3) := by decide +kernel
theorem dX4_parseEntry_123 : decode cX4_parseEntry 123 = .ok (.iload_n 2, 1) := by decide +kernel
theorem dX4_parseEntry_124 : decode cX4_parseEntry 124 = .ok (.invokevirtual 53, 3) := by decide +kernel
theorem dX4_parseEntry_127 : decode cX4_parseEntry 127 = .ok (.bipush (-4), 2) := by decide +kernel
theorem dX4_parseEntry_129 : decode cX4_parseEntry 129 = .ok (.ireturn, 1) := by decide +kernel
set_option maxRecDepth 20000 in
theorem ggX4_parseFigures_X4_letterHere : GoodIn wsX4_parseFigures wsX4_letterHere := goodIn_r _ [7, 2, 8, 9, 10, 11, 12, 13, 14] (by decide +kernel) (by decide +kernel)
set_option maxRecDepth 20000 in
theorem gX4_parseFigures_X4_letterHere : GoodIn wsX4_parseFigures (wsV RX4 39 RX4 yX4_letterHere wsX4_letterHere) := goodIn_app (goodIn_of _ (by decide +kernel)) ggX4_parseFigures_X4_letterHere
theorem dX4_parseFigures_0 : decode cX4_parseFigures 0 = .ok (.aload_n 0, 1) := by decide +kernel
theorem dX4_parseFigures_1 : decode cX4_parseFigures 1 = .ok (.iconst 1, 1) := by decide +kernel
theorem dX4_parseFigures_2 : decode cX4_parseFigures 2 = .ok (.putfield 29, 3) := by decide +kernel
theorem dX4_parseFigures_5 : decode cX4_parseFigures 5 = .ok (.iconst 0, 1) := by decide +kernel
theorem dX4_parseFigures_6 : decode cX4_parseFigures 6 = .ok (.istore_n 1, 1) := by decide +kernel
theorem dX4_parseFigures_7 : decode cX4_parseFigures 7 = .ok (.iload_n 1, 1) := by decide +kernel
theorem dX4_parseFigures_8 : decode cX4_parseFigures 8 = .ok (.bipush 8, 2) := by decide +kernel
theorem dX4_parseFigures_10 : decode cX4_parseFigures 10 = .ok (.if_icmp .ge 53, 3) := by decide +kernel
theorem dX4_parseFigures_13 : decode cX4_parseFigures 13 = .ok (.aload_n 0, 1) := by decide +kernel
theorem dX4_parseFigures_14 : decode cX4_parseFigures 14 = .ok (.invokevirtual 39, 3) := by decide +kernel
theorem dX4_parseFigures_17 : decode cX4_parseFigures 17 = .ok (.istore_n 2, 1) := by decide +kernel
theorem dX4_parseFigures_18 : decode cX4_parseFigures 18 = .ok (.iload_n 2, 1) := by decide +kernel
theorem dX4_parseFigures_19 : decode cX4_parseFigures 19 = .ok (.bipush 48, 2) := by decide +kernel
theorem dX4_parseFigures_21 : decode cX4_parseFigures 21 = .ok (.if_icmp .eq 11, 3) := by decide +kernel
theorem dX4_parseFigures_24 : decode cX4_parseFigures 24 = .ok (.iload_n 2, 1) := by decide +kernel
theorem dX4_parseFigures_25 : decode cX4_parseFigures 25 = .ok (.bipush 49, 2) := by decide +kernel
theorem dX4_parseFigures_27 : decode cX4_parseFigures 27 = .ok (.if_icmp .eq 5, 3) := by decide +kernel
theorem dX4_parseFigures_30 : decode cX4_parseFigures 30 = .ok (.iload_n 1, 1) := by decide +kernel
theorem dX4_parseFigures_31 : decode cX4_parseFigures 31 = .ok (.ireturn, 1) := by decide +kernel
theorem dX4_parseFigures_32 : decode cX4_parseFigures 32 = .ok (.aload_n 0, 1) := by decide +kernel
theorem dX4_parseFigures_33 : decode cX4_parseFigures 33 = .ok (.iconst 2, 1) := by decide +kernel
theorem dX4_parseFigures_34 : decode cX4_parseFigures 34 = .ok (.aload_n 0, 1) := by decide +kernel
theorem dX4_parseFigures_35 : decode cX4_parseFigures 35 = .ok (.getfield 29, 3) := by decide +kernel
theorem dX4_parseFigures_38 : decode cX4_parseFigures 38 = .ok (.imul, 1) := by decide +kernel
theorem dX4_parseFigures_39 : decode cX4_parseFigures 39 = .ok (.iload_n 2, 1) := by decide +kernel
theorem dX4_parseFigures_40 : decode cX4_parseFigures 40 = .ok (.bipush 48, 2) := by decide +kernel
theorem dX4_parseFigures_42 : decode cX4_parseFigures 42 = .ok (.isub, 1) := by decide +kernel
theorem dX4_parseFigures_43 : decode cX4_parseFigures 43 = .ok (.iadd, 1) := by decide +kernel
theorem dX4_parseFigures_44 : decode cX4_parseFigures 44 = .ok (.putfield 29, 3) := by decide +kernel
theorem dX4_parseFigures_47 : decode cX4_parseFigures 47 = .ok (.aload_n 0, 1) := by decide +kernel
theorem dX4_parseFigures_48 : decode cX4_parseFigures 48 = .ok (.dup, 1) := by decide +kernel
theorem dX4_parseFigures_49 : decode cX4_parseFigures 49 = .ok (.getfield 26, 3) := by decide +kernel
theorem dX4_parseFigures_52 : decode cX4_parseFigures 52 = .ok (.iconst 1, 1) := by decide +kernel
theorem dX4_parseFigures_53 : decode cX4_parseFigures 53 = .ok (.iadd, 1) := by decide +kernel
theorem dX4_parseFigures_54 : decode cX4_parseFigures 54 = .ok (.putfield 26, 3) := by decide +kernel
theorem dX4_parseFigures_57 : decode cX4_parseFigures 57 = .ok (.iinc 1 1, 3) := by decide +kernel
theorem dX4_parseFigures_60 : decode cX4_parseFigures 60 = .ok (.goto (-53), 3) := by decide +kernel
theorem dX4_parseFigures_63 : decode cX4_parseFigures 63 = .ok (.bipush 8, 2) := by decide +kernel
theorem dX4_parseFigures_65 : decode cX4_parseFigures 65 = .ok (.ireturn, 1) := by decide +kernel
theorem dX4_letterHere_0 : decode cX4_letterHere 0 = .ok (.aload_n 0, 1) := by decide +kernel
theorem dX4_letterHere_1 : decode cX4_letterHere 1 = .ok (.getfield 26, 3) := by decide +kernel
theorem dX4_letterHere_4 : decode cX4_letterHere 4 = .ok (.aload_n 0, 1) := by decide +kernel
theorem dX4_letterHere_5 : decode cX4_letterHere 5 = .ok (.getfield 22, 3) := by decide +kernel
theorem dX4_letterHere_8 : decode cX4_letterHere 8 = .ok (.if_icmp .ge 30, 3) := by decide +kernel
theorem dX4_letterHere_11 : decode cX4_letterHere 11 = .ok (.aload_n 0, 1) := by decide +kernel
theorem dX4_letterHere_12 : decode cX4_letterHere 12 = .ok (.getfield 9, 3) := by decide +kernel
theorem dX4_letterHere_15 : decode cX4_letterHere 15 = .ok (.aload_n 0, 1) := by decide +kernel
theorem dX4_letterHere_16 : decode cX4_letterHere 16 = .ok (.getfield 26, 3) := by decide +kernel
theorem dX4_letterHere_19 : decode cX4_letterHere 19 = .ok (.iaload, 1) := by decide +kernel
theorem dX4_letterHere_20 : decode cX4_letterHere 20 = .ok (.bipush 32, 2) := by decide +kernel
theorem dX4_letterHere_22 : decode cX4_letterHere 22 = .ok (.if_icmp .ne 16, 3) := by decide +kernel
theorem dX4_letterHere_25 : decode cX4_letterHere 25 = .ok (.aload_n 0, 1) := by decide +kernel
theorem dX4_letterHere_26 : decode cX4_letterHere 26 = .ok (.dup, 1) := by decide +kernel
theorem dX4_letterHere_27 : decode cX4_letterHere 27 = .ok (.getfield 26, 3) := by decide +kernel
theorem dX4_letterHere_30 : decode cX4_letterHere 30 = .ok (.iconst 1, 1) := by decide +kernel
theorem dX4_letterHere_31 : decode cX4_letterHere 31 = .ok (.iadd, 1) := by decide +kernel
theorem dX4_letterHere_32 : decode cX4_letterHere 32 = .ok (.putfield 26, 3) := by decide +kernel
theorem dX4_letterHere_35 : decode cX4_letterHere 35 = .ok (.goto (-35), 3) := by decide +kernel
theorem dX4_letterHere_38 : decode cX4_letterHere 38 = .ok (.aload_n 0, 1) := by decide +kernel
theorem dX4_letterHere_39 : decode cX4_letterHere 39 = .ok (.getfield 26, 3) := by decide +kernel
theorem dX4_letterHere_42 : decode cX4_letterHere 42 = .ok (.aload_n 0, 1) := by decide +kernel
theorem dX4_letterHere_43 : decode cX4_letterHere 43 = .ok (.getfield 22, 3) := by decide +kernel
theorem dX4_letterHere_46 : decode cX4_letterHere 46 = .ok (.if_icmp .ge 15, 3) := by decide +kernel
theorem dX4_letterHere_49 : decode cX4_letterHere 49 = .ok (.aload_n 0, 1) := by decide +kernel
theorem dX4_letterHere_50 : decode cX4_letterHere 50 = .ok (.getfield 9, 3) := by decide +kernel
theorem dX4_letterHere_53 : decode cX4_letterHere 53 = .ok (.aload_n 0, 1) := by decide +kernel
theorem dX4_letterHere_54 : decode cX4_letterHere 54 = .ok (.getfield 26, 3) := by decide +kernel
theorem dX4_letterHere_57 : decode cX4_letterHere 57 = .ok (.iaload, 1) := by decide +kernel
theorem dX4_letterHere_58 : decode cX4_letterHere 58 = .ok (.goto 4, 3) := by decide +kernel
theorem dX4_letterHere_61 : decode cX4_letterHere 61 = .ok (.iconst (-1), 1) := by decide +kernel
theorem dX4_letterHere_62 : decode cX4_letterHere 62 = .ok (.ireturn, 1) := by decide +kernel
set_option maxRecDepth 20000 in
theorem ggX5_init_X3_init : GoodIn wsX5_init wsX3_init := goodIn_r _ [16, 17, 2, 3, 18, 19, 20, 28, 29] (by decide +kernel) (by decide +kernel)
set_option maxRecDepth 20000 in
theorem gX5_init_X3_init_n29 : GoodIn wsX5_init (wsX3_init) := ggX5_init_X3_init
theorem dX5_init_0 : decode cX5_init 0 = .ok (.aload_n 0, 1) := by decide +kernel
theorem dX5_init_1 : decode cX5_init 1 = .ok (.invokespecial 3, 3) := by decide +kernel
theorem dX5_init_4 : decode cX5_init 4 = .ok (.aload_n 0, 1) := by decide +kernel
theorem dX5_init_5 : decode cX5_init 5 = .ok (.sipush 512, 3) := by decide +kernel
theorem dX5_init_8 : decode cX5_init 8 = .ok (.newarray .int, 2) := by decide +kernel
theorem dX5_init_10 : decode cX5_init 10 = .ok (.putfield 9, 3) := by decide +kernel
theorem dX5_init_13 : decode cX5_init 13 = .ok (.aload_n 0, 1) := by decide +kernel
theorem dX5_init_14 : decode cX5_init 14 = .ok (.sipush 512, 3) := by decide +kernel
theorem dX5_init_17 : decode cX5_init 17 = .ok (.newarray .int, 2) := by decide +kernel
theorem dX5_init_19 : decode cX5_init 19 = .ok (.putfield 15, 3) := by decide +kernel
theorem dX5_init_22 : decode cX5_init 22 = .ok (.aload_n 0, 1) := by decide +kernel
theorem dX5_init_23 : decode cX5_init 23 = .ok (.sipush 512, 3) := by decide +kernel
theorem dX5_init_26 : decode cX5_init 26 = .ok (.newarray .int, 2) := by decide +kernel
theorem dX5_init_28 : decode cX5_init 28 = .ok (.putfield 18, 3) := by decide +kernel
theorem dX5_init_31 : decode cX5_init 31 = .ok (.aload_n 0, 1) := by decide +kernel
theorem dX5_init_32 : decode cX5_init 32 = .ok (.sipush 512, 3) := by decide +kernel
theorem dX5_init_35 : decode cX5_init 35 = .ok (.newarray .int, 2) := by decide +kernel
theorem dX5_init_37 : decode cX5_init 37 = .ok (.putfield 21, 3) := by decide +kernel
theorem dX5_init_40 : decode cX5_init 40 = .ok (.aload_n 0, 1) := by decide +kernel
theorem dX5_init_41 : decode cX5_init 41 = .ok (.sipush 512, 3) := by decide +kernel
theorem dX5_init_44 : decode cX5_init 44 = .ok (.newarray .int, 2) := by decide +kernel
theorem dX5_init_46 : decode cX5_init 46 = .ok (.putfield 24, 3) := by decide +kernel
theorem dX5_init_49 : decode cX5_init 49 = .ok (.aload_n 0, 1) := by decide +kernel
theorem dX5_init_50 : decode cX5_init 50 = .ok (.new 27, 3) := by decide +kernel
theorem dX5_init_53 : decode cX5_init 53 = .ok (.dup, 1) := by decide +kernel
theorem dX5_init_54 : decode cX5_init 54 = .ok (.invokespecial 29, 3) := by decide +kernel
theorem dX5_init_57 : decode cX5_init 57 = .ok (.putfield 30, 3) := by decide +kernel
theorem dX5_init_60 : decode cX5_init 60 = .ok (.aload_n 0, 1) := by decide +kernel
theorem dX5_init_61 : decode cX5_init 61 = .ok (.new 27, 3) := by decide +kernel
theorem dX5_init_64 : decode cX5_init 64 = .ok (.dup, 1) := by decide +kernel
theorem dX5_init_65 : decode cX5_init 65 = .ok (.invokespecial 29, 3) := by decide +kernel
theorem dX5_init_68 : decode cX5_init 68 = .ok (.putfield 34, 3) := by decide +kernel
theorem dX5_init_71 : decode cX5_init 71 = .ok (.return_, 1) := by decide +kernel
set_option maxRecDepth 20000 in
theorem ggX5_make_X3_takeFrom : GoodIn wsX5_make wsX3_takeFrom := goodIn_r _ [8, 9, 10, 11, 12, 13, 14, 80, 81] (by decide +kernel) (by decide +kernel)
set_option maxRecDepth 20000 in
theorem gX5_make_X3_takeFrom : GoodIn wsX5_make (wsV RX5 37 RX3 yX3_takeFrom wsX3_takeFrom) := goodIn_app (goodIn_of _ (by decide +kernel)) ggX5_make_X3_takeFrom
set_option maxRecDepth 20000 in
theorem ggX5_make_X5_spread : GoodIn wsX5_make wsX5_spread := goodIn_r _ [18, 19, 20, 21, 22, 23, 24, 25, 7, 26, 9, 80, 81] (by decide +kernel) (by decide +kernel)
set_option maxRecDepth 20000 in
theorem gX5_make_X5_spread : GoodIn wsX5_make (va_wsS RX5 41 yX5_spread wsX5_spread) := goodIn_app (goodIn_of _ (by decide +kernel)) ggX5_make_X5_spread
set_option maxRecDepth 20000 in
theorem ggX5_make_X5_findBest : GoodIn wsX5_make wsX5_findBest := goodIn_r _ [30, 31, 2, 32, 73, 74, 75, 76, 77, 78, 79] (by decide +kernel) (by decide +kernel)
set_option maxRecDepth 20000 in
theorem gX5_make_X5_findBest : GoodIn wsX5_make (wsV RX5 45 RX5 yX5_findBest wsX5_findBest) := goodIn_app (goodIn_of _ (by decide +kernel)) ggX5_make_X5_findBest
set_option maxRecDepth 20000 in
theorem ggX5_make_X5_findLeast : GoodIn wsX5_make wsX5_findLeast := goodIn_r _ [36, 37, 38, 31, 39, 40, 41, 7, 42, 9, 14, 43, 44, 45, 46, 47, 48, 17, 49, 50, 51, 52, 53, 54, 55, 56, 57, 58, 59, 60, 61, 62, 63, 64, 65, 66, 24, 25, 26, 67, 68, 69, 70, 71, 72, 73, 74, 75, 76, 77, 78, 79, 80, 81] (by decide +kernel) (by decide +kernel)
set_option maxRecDepth 20000 in
theorem gX5_make_X5_findLeast : GoodIn wsX5_make (wsV RX5 48 RX5 yX5_findLeast wsX5_findLeast) := goodIn_app (goodIn_of _ (by decide +kernel)) ggX5_make_X5_findLeast
theorem dX5_make_0 : decode cX5_make 0 = .ok (.aload_n 0, 1) := by decide +kernel
theorem dX5_make_1 : decode cX5_make 1 = .ok (.getfield 30, 3) := by decide +kernel
theorem dX5_make_4 : decode cX5_make 4 = .ok (.aload_n 2, 1) := by decide +kernel
theorem dX5_make_5 : decode cX5_make 5 = .ok (.invokevirtual 37, 3) := by decide +kernel
theorem dX5_make_8 : decode cX5_make 8 = .ok (.aload_n 1, 1) := by decide +kernel
theorem dX5_make_9 : decode cX5_make 9 = .ok (.aload_n 0, 1) := by decide +kernel
theorem dX5_make_10 : decode cX5_make 10 = .ok (.getfield 9, 3) := by decide +kernel
theorem dX5_make_13 : decode cX5_make 13 = .ok (.invokestatic 41, 3) := by decide +kernel
theorem dX5_make_16 : decode cX5_make 16 = .ok (.aload_n 0, 1) := by decide +kernel
theorem dX5_make_17 : decode cX5_make 17 = .ok (.getfield 30, 3) := by decide +kernel
theorem dX5_make_20 : decode cX5_make 20 = .ok (.aload_n 0, 1) := by decide +kernel
theorem dX5_make_21 : decode cX5_make 21 = .ok (.getfield 15, 3) := by decide +kernel
theorem dX5_make_24 : decode cX5_make 24 = .ok (.invokestatic 41, 3) := by decide +kernel
theorem dX5_make_27 : decode cX5_make 27 = .ok (.aload_n 0, 1) := by decide +kernel
theorem dX5_make_28 : decode cX5_make 28 = .ok (.invokevirtual 45, 3) := by decide +kernel
theorem dX5_make_31 : decode cX5_make 31 = .ok (.aload_n 0, 1) := by decide +kernel
theorem dX5_make_32 : decode cX5_make 32 = .ok (.invokevirtual 48, 3) := by decide +kernel
theorem dX5_make_35 : decode cX5_make 35 = .ok (.return_, 1) := by decide +kernel
theorem dX5_leastTable_0 : decode cX5_leastTable 0 = .ok (.aload_n 0, 1) := by decide +kernel
theorem dX5_leastTable_1 : decode cX5_leastTable 1 = .ok (.getfield 34, 3) := by decide +kernel
theorem dX5_leastTable_4 : decode cX5_leastTable 4 = .ok (.areturn, 1) := by decide +kernel
set_option maxRecDepth 20000 in
theorem ggX5_hopsBeneath_X6_isPrefix : GoodIn wsX5_hopsBeneath wsX6_isPrefix := goodIn_r _ [4] (by decide +kernel) (by decide +kernel)
set_option maxRecDepth 20000 in
theorem gX5_hopsBeneath_X6_isPrefix_n51 : GoodIn wsX5_hopsBeneath (wsX6_isPrefix) := ggX5_hopsBeneath_X6_isPrefix
theorem dX5_hopsBeneath_0 : decode cX5_hopsBeneath 0 = .ok (.iload_n 1, 1) := by decide +kernel
theorem dX5_hopsBeneath_1 : decode cX5_hopsBeneath 1 = .ok (.invokestatic 51, 3) := by decide +kernel
theorem dX5_hopsBeneath_4 : decode cX5_hopsBeneath 4 = .ok (.ifCond .eq 12, 3) := by decide +kernel
theorem dX5_hopsBeneath_7 : decode cX5_hopsBeneath 7 = .ok (.aload_n 0, 1) := by decide +kernel
theorem dX5_hopsBeneath_8 : decode cX5_hopsBeneath 8 = .ok (.getfield 9, 3) := by decide +kernel
theorem dX5_hopsBeneath_11 : decode cX5_hopsBeneath 11 = .ok (.iload_n 1, 1) := by decide +kernel
theorem dX5_hopsBeneath_12 : decode cX5_hopsBeneath 12 = .ok (.iaload, 1) := by decide +kernel
theorem dX5_hopsBeneath_13 : decode cX5_hopsBeneath 13 = .ok (.goto 4, 3) := by decide +kernel
theorem dX5_hopsBeneath_16 : decode cX5_hopsBeneath 16 = .ok (.iconst 0, 1) := by decide +kernel
theorem dX5_hopsBeneath_17 : decode cX5_hopsBeneath 17 = .ok (.ireturn, 1) := by decide +kernel
set_option maxRecDepth 20000 in
theorem ggX5_installedHopsBeneath_X6_isPrefix : GoodIn wsX5_installedHopsBeneath wsX6_isPrefix := goodIn_r _ [4] (by decide +kernel) (by decide +kernel)
set_option maxRecDepth 20000 in
theorem gX5_installedHopsBeneath_X6_isPrefix_n51 : GoodIn wsX5_installedHopsBeneath (wsX6_isPrefix) := ggX5_installedHopsBeneath_X6_isPrefix
theorem dX5_installedHopsBeneath_0 : decode cX5_installedHopsBeneath 0 = .ok (.iload_n 1, 1) := by decide +kernel
theorem dX5_installedHopsBeneath_1 : decode cX5_installedHopsBeneath 1 = .ok (.invokestatic 51, 3) := by decide +kernel
theorem dX5_installedHopsBeneath_4 : decode cX5_installedHopsBeneath 4 = .ok (.ifCond .eq 12, 3) := by decide +kernel
theorem dX5_installedHopsBeneath_7 : decode cX5_installedHopsBeneath 7 = .ok (.aload_n 0, 1) := by decide +kernel
theorem dX5_installedHopsBeneath_8 : decode cX5_installedHopsBeneath 8 = .ok (.getfield 15, 3) := by decide +kernel
theorem dX5_installedHopsBeneath_11 : decode cX5_installedHopsBeneath 11 = .ok (.iload_n 1, 1) := by decide +kernel
theorem dX5_installedHopsBeneath_12 : decode cX5_installedHopsBeneath 12 = .ok (.iaload, 1) := by decide +kernel
theorem dX5_installedHopsBeneath_13 : decode cX5_installedHopsBeneath 13 = .ok (.goto 4, 3) := by decide +kernel
theorem dX5_installedHopsBeneath_16 : decode cX5_installedHopsBeneath 16 = .ok (.iconst 0, 1) := by decide +kernel
theorem dX5_installedHopsBeneath_17 : decode cX5_installedHopsBeneath 17 = .ok (.ireturn, 1) := by decide +kernel
set_option maxRecDepth 20000 in
theorem ggX5_bestHops_X6_isPrefix : GoodIn wsX5_bestHops wsX6_isPrefix := goodIn_r _ [4] (by decide +kernel) (by decide +kernel)
set_option maxRecDepth 20000 in
theorem gX5_bestHops_X6_isPrefix_n51 : GoodIn wsX5_bestHops (wsX6_isPrefix) := ggX5_bestHops_X6_isPrefix
theorem dX5_bestHops_0 : decode cX5_bestHops 0 = .ok (.iload_n 1, 1) := by decide +kernel
theorem dX5_bestHops_1 : decode cX5_bestHops 1 = .ok (.invokestatic 51, 3) := by decide +kernel
theorem dX5_bestHops_4 : decode cX5_bestHops 4 = .ok (.ifCond .eq 12, 3) := by decide +kernel
theorem dX5_bestHops_7 : decode cX5_bestHops 7 = .ok (.aload_n 0, 1) := by decide +kernel
theorem dX5_bestHops_8 : decode cX5_bestHops 8 = .ok (.getfield 18, 3) := by decide +kernel
theorem dX5_bestHops_11 : decode cX5_bestHops 11 = .ok (.iload_n 1, 1) := by decide +kernel
theorem dX5_bestHops_12 : decode cX5_bestHops 12 = .ok (.iaload, 1) := by decide +kernel
theorem dX5_bestHops_13 : decode cX5_bestHops 13 = .ok (.goto 4, 3) := by decide +kernel
theorem dX5_bestHops_16 : decode cX5_bestHops 16 = .ok (.iconst 0, 1) := by decide +kernel
theorem dX5_bestHops_17 : decode cX5_bestHops 17 = .ok (.ireturn, 1) := by decide +kernel
set_option maxRecDepth 20000 in
theorem ggX5_easeOf_X6_isPrefix : GoodIn wsX5_easeOf wsX6_isPrefix := goodIn_r _ [4] (by decide +kernel) (by decide +kernel)
set_option maxRecDepth 20000 in
theorem gX5_easeOf_X6_isPrefix_n51 : GoodIn wsX5_easeOf (wsX6_isPrefix) := ggX5_easeOf_X6_isPrefix
theorem dX5_easeOf_0 : decode cX5_easeOf 0 = .ok (.iload_n 1, 1) := by decide +kernel
theorem dX5_easeOf_1 : decode cX5_easeOf 1 = .ok (.invokestatic 51, 3) := by decide +kernel
theorem dX5_easeOf_4 : decode cX5_easeOf 4 = .ok (.ifCond .eq 12, 3) := by decide +kernel
theorem dX5_easeOf_7 : decode cX5_easeOf 7 = .ok (.aload_n 0, 1) := by decide +kernel
theorem dX5_easeOf_8 : decode cX5_easeOf 8 = .ok (.getfield 21, 3) := by decide +kernel
theorem dX5_easeOf_11 : decode cX5_easeOf 11 = .ok (.iload_n 1, 1) := by decide +kernel
theorem dX5_easeOf_12 : decode cX5_easeOf 12 = .ok (.iaload, 1) := by decide +kernel
theorem dX5_easeOf_13 : decode cX5_easeOf 13 = .ok (.goto 4, 3) := by decide +kernel
theorem dX5_easeOf_16 : decode cX5_easeOf 16 = .ok (.iconst 0, 1) := by decide +kernel
theorem dX5_easeOf_17 : decode cX5_easeOf 17 = .ok (.ireturn, 1) := by decide +kernel
set_option maxRecDepth 20000 in
theorem ggX5_costBy_X5_easeOf : GoodIn wsX5_costBy wsX5_easeOf := goodIn_r _ [5, 6, 7, 8, 9, 18, 19, 20, 21, 22, 23, 24] (by decide +kernel) (by decide +kernel)
set_option maxRecDepth 20000 in
theorem gX5_costBy_X5_easeOf : GoodIn wsX5_costBy (wsV RX5 55 RX5 yX5_easeOf wsX5_easeOf) := goodIn_app (goodIn_of _ (by decide +kernel)) ggX5_costBy_X5_easeOf
set_option maxRecDepth 20000 in
theorem ggX5_costBy_X5_bestHops : GoodIn wsX5_costBy wsX5_bestHops := goodIn_r _ [13, 14, 7, 8, 9, 18, 19, 20, 21, 22, 23, 24] (by decide +kernel) (by decide +kernel)
set_option maxRecDepth 20000 in
theorem gX5_costBy_X5_bestHops : GoodIn wsX5_costBy (wsV RX5 59 RX5 yX5_bestHops wsX5_bestHops) := goodIn_app (goodIn_of _ (by decide +kernel)) ggX5_costBy_X5_bestHops
set_option maxRecDepth 20000 in
theorem ggX5_costBy_X5_hasBit : GoodIn wsX5_costBy wsX5_hasBit := goodIn_r _ [17] (by decide +kernel) (by decide +kernel)
set_option maxRecDepth 20000 in
theorem gX5_costBy_X5_hasBit : GoodIn wsX5_costBy (va_wsS RX5 62 yX5_hasBit wsX5_hasBit) := goodIn_app (goodIn_of _ (by decide +kernel)) ggX5_costBy_X5_hasBit
theorem dX5_costBy_0 : decode cX5_costBy 0 = .ok (.aload_n 0, 1) := by decide +kernel
theorem dX5_costBy_1 : decode cX5_costBy 1 = .ok (.iload_n 1, 1) := by decide +kernel
theorem dX5_costBy_2 : decode cX5_costBy 2 = .ok (.invokevirtual 55, 3) := by decide +kernel
theorem dX5_costBy_5 : decode cX5_costBy 5 = .ok (.aload_n 0, 1) := by decide +kernel
theorem dX5_costBy_6 : decode cX5_costBy 6 = .ok (.iload_n 1, 1) := by decide +kernel
theorem dX5_costBy_7 : decode cX5_costBy 7 = .ok (.invokevirtual 59, 3) := by decide +kernel
theorem dX5_costBy_10 : decode cX5_costBy 10 = .ok (.iload_n 2, 1) := by decide +kernel
theorem dX5_costBy_11 : decode cX5_costBy 11 = .ok (.invokestatic 62, 3) := by decide +kernel
theorem dX5_costBy_14 : decode cX5_costBy 14 = .ok (.ifCond .eq 7, 3) := by decide +kernel
theorem dX5_costBy_17 : decode cX5_costBy 17 = .ok (.iconst 0, 1) := by decide +kernel
theorem dX5_costBy_18 : decode cX5_costBy 18 = .ok (.goto 4, 3) := by decide +kernel
theorem dX5_costBy_21 : decode cX5_costBy 21 = .ok (.iconst 1, 1) := by decide +kernel
theorem dX5_costBy_22 : decode cX5_costBy 22 = .ok (.iadd, 1) := by decide +kernel
theorem dX5_costBy_23 : decode cX5_costBy 23 = .ok (.ireturn, 1) := by decide +kernel
set_option maxRecDepth 20000 in
theorem ggX5_kindOfChange_X3_hopAt : GoodIn wsX5_kindOfChange wsX3_hopAt := goodIn_r _ [7, 8, 16, 17] (by decide +kernel) (by decide +kernel)
set_option maxRecDepth 20000 in
theorem gX5_kindOfChange_X3_hopAt : GoodIn wsX5_kindOfChange (wsV RX5 66 RX3 yX3_hopAt wsX3_hopAt) := goodIn_app (goodIn_of _ (by decide +kernel)) ggX5_kindOfChange_X3_hopAt
theorem dX5_kindOfChange_0 : decode cX5_kindOfChange 0 = .ok (.aload_n 0, 1) := by decide +kernel
theorem dX5_kindOfChange_1 : decode cX5_kindOfChange 1 = .ok (.getfield 30, 3) := by decide +kernel
theorem dX5_kindOfChange_4 : decode cX5_kindOfChange 4 = .ok (.iload_n 1, 1) := by decide +kernel
theorem dX5_kindOfChange_5 : decode cX5_kindOfChange 5 = .ok (.invokevirtual 66, 3) := by decide +kernel
theorem dX5_kindOfChange_8 : decode cX5_kindOfChange 8 = .ok (.istore_n 2, 1) := by decide +kernel
theorem dX5_kindOfChange_9 : decode cX5_kindOfChange 9 = .ok (.aload_n 0, 1) := by decide +kernel
theorem dX5_kindOfChange_10 : decode cX5_kindOfChange 10 = .ok (.getfield 34, 3) := by decide +kernel
theorem dX5_kindOfChange_13 : decode cX5_kindOfChange 13 = .ok (.iload_n 1, 1) := by decide +kernel
theorem dX5_kindOfChange_14 : decode cX5_kindOfChange 14 = .ok (.invokevirtual 66, 3) := by decide +kernel
theorem dX5_kindOfChange_17 : decode cX5_kindOfChange 17 = .ok (.istore_n 3, 1) := by decide +kernel
theorem dX5_kindOfChange_18 : decode cX5_kindOfChange 18 = .ok (.iload_n 2, 1) := by decide +kernel
theorem dX5_kindOfChange_19 : decode cX5_kindOfChange 19 = .ok (.iload_n 3, 1) := by decide +kernel
theorem dX5_kindOfChange_20 : decode cX5_kindOfChange 20 = .ok (.if_icmp .ne 6, 3) := by decide +kernel
theorem dX5_kindOfChange_23 : decode cX5_kindOfChange 23 = .ok (.bipush (-4), 2) := by decide +kernel
theorem dX5_kindOfChange_25 : decode cX5_kindOfChange 25 = .ok (.ireturn, 1) := by decide +kernel
theorem dX5_kindOfChange_26 : decode cX5_kindOfChange 26 = .ok (.iload_n 3, 1) := by decide +kernel
theorem dX5_kindOfChange_27 : decode cX5_kindOfChange 27 = .ok (.bipush (-4), 2) := by decide +kernel
theorem dX5_kindOfChange_29 : decode cX5_kindOfChange 29 = .ok (.if_icmp .ne 5, 3) := by decide +kernel
theorem dX5_kindOfChange_32 : decode cX5_kindOfChange 32 = .ok (.iconst 0, 1) := by decide +kernel
theorem dX5_kindOfChange_33 : decode cX5_kindOfChange 33 = .ok (.ireturn, 1) := by decide +kernel
theorem dX5_kindOfChange_34 : decode cX5_kindOfChange 34 = .ok (.iload_n 2, 1) := by decide +kernel
theorem dX5_kindOfChange_35 : decode cX5_kindOfChange 35 = .ok (.bipush (-4), 2) := by decide +kernel
theorem dX5_kindOfChange_37 : decode cX5_kindOfChange 37 = .ok (.if_icmp .ne 7, 3) := by decide +kernel
theorem dX5_kindOfChange_40 : decode cX5_kindOfChange 40 = .ok (.iconst 1, 1) := by decide +kernel
theorem dX5_kindOfChange_41 : decode cX5_kindOfChange 41 = .ok (.goto 4, 3) := by decide +kernel
theorem dX5_kindOfChange_44 : decode cX5_kindOfChange 44 = .ok (.iconst 2, 1) := by decide +kernel
theorem dX5_kindOfChange_45 : decode cX5_kindOfChange 45 = .ok (.ireturn, 1) := by decide +kernel
set_option maxRecDepth 20000 in
theorem ggX5_countChanges_X5_kindOfChange : GoodIn wsX5_countChanges wsX5_kindOfChange := goodIn_r _ [5, 6, 7, 8, 9, 10, 11, 12, 13, 14, 15, 16, 17, 18, 19, 20, 21, 22] (by decide +kernel) (by decide +kernel)
set_option maxRecDepth 20000 in
theorem gX5_countChanges_X5_kindOfChange : GoodIn wsX5_countChanges (wsV RX5 69 RX5 yX5_kindOfChange wsX5_kindOfChange) := goodIn_app (goodIn_of _ (by decide +kernel)) ggX5_countChanges_X5_kindOfChange
theorem dX5_countChanges_0 : decode cX5_countChanges 0 = .ok (.iconst 0, 1) := by decide +kernel
theorem dX5_countChanges_1 : decode cX5_countChanges 1 = .ok (.istore_n 1, 1) := by decide +kernel
theorem dX5_countChanges_2 : decode cX5_countChanges 2 = .ok (.iconst 1, 1) := by decide +kernel
theorem dX5_countChanges_3 : decode cX5_countChanges 3 = .ok (.istore_n 2, 1) := by decide +kernel
theorem dX5_countChanges_4 : decode cX5_countChanges 4 = .ok (.iload_n 2, 1) := by decide +kernel
theorem dX5_countChanges_5 : decode cX5_countChanges 5 = .ok (.sipush 512, 3) := by decide +kernel
theorem dX5_countChanges_8 : decode cX5_countChanges 8 = .ok (.if_icmp .ge 22, 3) := by decide +kernel
theorem dX5_countChanges_11 : decode cX5_countChanges 11 = .ok (.aload_n 0, 1) := by decide +kernel
theorem dX5_countChanges_12 : decode cX5_countChanges 12 = .ok (.iload_n 2, 1) := by decide +kernel
theorem dX5_countChanges_13 : decode cX5_countChanges 13 = .ok (.invokevirtual 69, 3) := by decide +kernel
theorem dX5_countChanges_16 : decode cX5_countChanges 16 = .ok (.bipush (-4), 2) := by decide +kernel
theorem dX5_countChanges_18 : decode cX5_countChanges 18 = .ok (.if_icmp .eq 6, 3) := by decide +kernel
theorem dX5_countChanges_21 : decode cX5_countChanges 21 = .ok (.iinc 1 1, 3) := by decide +kernel
theorem dX5_countChanges_24 : decode cX5_countChanges 24 = .ok (.iinc 2 1, 3) := by decide +kernel
theorem dX5_countChanges_27 : decode cX5_countChanges 27 = .ok (.goto (-23), 3) := by decide +kernel
theorem dX5_countChanges_30 : decode cX5_countChanges 30 = .ok (.iload_n 1, 1) := by decide +kernel
theorem dX5_countChanges_31 : decode cX5_countChanges 31 = .ok (.ireturn, 1) := by decide +kernel
set_option maxRecDepth 20000 in
theorem ggX5_changeNumber_X5_kindOfChange : GoodIn wsX5_changeNumber wsX5_kindOfChange := goodIn_r _ [5, 6, 7, 8, 9, 10, 11, 12, 13, 14, 15, 16, 17, 18, 19, 20, 21, 22] (by decide +kernel) (by decide +kernel)
set_option maxRecDepth 20000 in
theorem gX5_changeNumber_X5_kindOfChange : GoodIn wsX5_changeNumber (wsV RX5 69 RX5 yX5_kindOfChange wsX5_kindOfChange) := goodIn_app (goodIn_of _ (by decide +kernel)) ggX5_changeNumber_X5_kindOfChange
theorem dX5_changeNumber_0 : decode cX5_changeNumber 0 = .ok (.iconst 0, 1) := by decide +kernel
theorem dX5_changeNumber_1 : decode cX5_changeNumber 1 = .ok (.istore_n 2, 1) := by decide +kernel
theorem dX5_changeNumber_2 : decode cX5_changeNumber 2 = .ok (.iconst 1, 1) := by decide +kernel
theorem dX5_changeNumber_3 : decode cX5_changeNumber 3 = .ok (.istore_n 3, 1) := by decide +kernel
theorem dX5_changeNumber_4 : decode cX5_changeNumber 4 = .ok (.iload_n 3, 1) := by decide +kernel
theorem dX5_changeNumber_5 : decode cX5_changeNumber 5 = .ok (.sipush 512, 3) := by decide +kernel
theorem dX5_changeNumber_8 : decode cX5_changeNumber 8 = .ok (.if_icmp .ge 29, 3) := by decide +kernel
theorem dX5_changeNumber_11 : decode cX5_changeNumber 11 = .ok (.aload_n 0, 1) := by decide +kernel
theorem dX5_changeNumber_12 : decode cX5_changeNumber 12 = .ok (.iload_n 3, 1) := by decide +kernel
theorem dX5_changeNumber_13 : decode cX5_changeNumber 13 = .ok (.invokevirtual 69, 3) := by decide +kernel
theorem dX5_changeNumber_16 : decode cX5_changeNumber 16 = .ok (.bipush (-4), 2) := by decide +kernel
theorem dX5_changeNumber_18 : decode cX5_changeNumber 18 = .ok (.if_icmp .eq 13, 3) := by decide +kernel
theorem dX5_changeNumber_21 : decode cX5_changeNumber 21 = .ok (.iload_n 2, 1) := by decide +kernel
theorem dX5_changeNumber_22 : decode cX5_changeNumber 22 = .ok (.iload_n 1, 1) := by decide +kernel
theorem dX5_changeNumber_23 : decode cX5_changeNumber 23 = .ok (.if_icmp .ne 5, 3) := by decide +kernel
theorem dX5_changeNumber_26 : decode cX5_changeNumber 26 = .ok (.iload_n 3, 1) := by decide +kernel
theorem dX5_changeNumber_27 : decode cX5_changeNumber 27 = .ok (.ireturn, 1) := by decide +kernel
theorem dX5_changeNumber_28 : decode cX5_changeNumber 28 = .ok (.iinc 2 1, 3) := by decide +kernel
theorem dX5_changeNumber_31 : decode cX5_changeNumber 31 = .ok (.iinc 3 1, 3) := by decide +kernel
theorem dX5_changeNumber_34 : decode cX5_changeNumber 34 = .ok (.goto (-30), 3) := by decide +kernel
theorem dX5_changeNumber_37 : decode cX5_changeNumber 37 = .ok (.bipush (-4), 2) := by decide +kernel
theorem dX5_changeNumber_39 : decode cX5_changeNumber 39 = .ok (.ireturn, 1) := by decide +kernel
set_option maxRecDepth 20000 in
theorem ggX5_countProof_X5_proofFrom : GoodIn wsX5_countProof wsX5_proofFrom := goodIn_r _ [5, 6, 7, 8, 4, 9, 10, 11, 12, 13, 14, 15, 16, 17, 18, 19, 20, 21, 22, 23, 24, 25, 26, 27, 28, 29, 30, 31, 32, 33, 34, 35, 36, 37, 38, 39, 40, 41, 42, 43] (by decide +kernel) (by decide +kernel)
set_option maxRecDepth 20000 in
theorem gX5_countProof_X5_proofFrom : GoodIn wsX5_countProof (wsV RX5 72 RX5 yX5_proofFrom wsX5_proofFrom) := goodIn_app (goodIn_of _ (by decide +kernel)) ggX5_countProof_X5_proofFrom
theorem dX5_countProof_0 : decode cX5_countProof 0 = .ok (.iconst 0, 1) := by decide +kernel
theorem dX5_countProof_1 : decode cX5_countProof 1 = .ok (.istore_n 1, 1) := by decide +kernel
theorem dX5_countProof_2 : decode cX5_countProof 2 = .ok (.iconst 0, 1) := by decide +kernel
theorem dX5_countProof_3 : decode cX5_countProof 3 = .ok (.istore_n 2, 1) := by decide +kernel
theorem dX5_countProof_4 : decode cX5_countProof 4 = .ok (.iload_n 2, 1) := by decide +kernel
theorem dX5_countProof_5 : decode cX5_countProof 5 = .ok (.sipush 256, 3) := by decide +kernel
theorem dX5_countProof_8 : decode cX5_countProof 8 = .ok (.if_icmp .ge 22, 3) := by decide +kernel
theorem dX5_countProof_11 : decode cX5_countProof 11 = .ok (.aload_n 0, 1) := by decide +kernel
theorem dX5_countProof_12 : decode cX5_countProof 12 = .ok (.iload_n 2, 1) := by decide +kernel
theorem dX5_countProof_13 : decode cX5_countProof 13 = .ok (.invokevirtual 72, 3) := by decide +kernel
theorem dX5_countProof_16 : decode cX5_countProof 16 = .ok (.bipush (-4), 2) := by decide +kernel
theorem dX5_countProof_18 : decode cX5_countProof 18 = .ok (.if_icmp .eq 6, 3) := by decide +kernel
theorem dX5_countProof_21 : decode cX5_countProof 21 = .ok (.iinc 1 1, 3) := by decide +kernel
theorem dX5_countProof_24 : decode cX5_countProof 24 = .ok (.iinc 2 1, 3) := by decide +kernel
theorem dX5_countProof_27 : decode cX5_countProof 27 = .ok (.goto (-23), 3) := by decide +kernel
theorem dX5_countProof_30 : decode cX5_countProof 30 = .ok (.iload_n 1, 1) := by decide +kernel
theorem dX5_countProof_31 : decode cX5_countProof 31 = .ok (.ireturn, 1) := by decide +kernel
set_option maxRecDepth 20000 in
theorem ggX5_proofNumber_X5_proofFrom : GoodIn wsX5_proofNumber wsX5_proofFrom := goodIn_r _ [5, 6, 7, 8, 4, 9, 10, 11, 12, 13, 14, 15, 16, 17, 18, 19, 20, 21, 22, 23, 24, 25, 26, 27, 28, 29, 30, 31, 32, 33, 34, 35, 36, 37, 38, 39, 40, 41, 42, 43] (by decide +kernel) (by decide +kernel)
set_option maxRecDepth 20000 in
theorem gX5_proofNumber_X5_proofFrom : GoodIn wsX5_proofNumber (wsV RX5 72 RX5 yX5_proofFrom wsX5_proofFrom) := goodIn_app (goodIn_of _ (by decide +kernel)) ggX5_proofNumber_X5_proofFrom
theorem dX5_proofNumber_0 : decode cX5_proofNumber 0 = .ok (.iconst 0, 1) := by decide +kernel
theorem dX5_proofNumber_1 : decode cX5_proofNumber 1 = .ok (.istore_n 2, 1) := by decide +kernel
theorem dX5_proofNumber_2 : decode cX5_proofNumber 2 = .ok (.iconst 0, 1) := by decide +kernel
theorem dX5_proofNumber_3 : decode cX5_proofNumber 3 = .ok (.istore_n 3, 1) := by decide +kernel
theorem dX5_proofNumber_4 : decode cX5_proofNumber 4 = .ok (.iload_n 3, 1) := by decide +kernel
theorem dX5_proofNumber_5 : decode cX5_proofNumber 5 = .ok (.sipush 256, 3) := by decide +kernel
theorem dX5_proofNumber_8 : decode cX5_proofNumber 8 = .ok (.if_icmp .ge 34, 3) := by decide +kernel
theorem dX5_proofNumber_11 : decode cX5_proofNumber 11 = .ok (.aload_n 0, 1) := by decide +kernel
theorem dX5_proofNumber_12 : decode cX5_proofNumber 12 = .ok (.iload_n 3, 1) := by decide +kernel
theorem dX5_proofNumber_13 : decode cX5_proofNumber 13 = .ok (.invokevirtual 72, 3) := by decide +kernel
theorem dX5_proofNumber_16 : decode cX5_proofNumber 16 = .ok (.istore 4, 2) := by decide +kernel
theorem dX5_proofNumber_18 : decode cX5_proofNumber 18 = .ok (.iload 4, 2) := by decide +kernel
theorem dX5_proofNumber_20 : decode cX5_proofNumber 20 = .ok (.bipush (-4), 2) := by decide +kernel
theorem dX5_proofNumber_22 : decode cX5_proofNumber 22 = .ok (.if_icmp .eq 14, 3) := by decide +kernel
theorem dX5_proofNumber_25 : decode cX5_proofNumber 25 = .ok (.iload_n 2, 1) := by decide +kernel
theorem dX5_proofNumber_26 : decode cX5_proofNumber 26 = .ok (.iload_n 1, 1) := by decide +kernel
theorem dX5_proofNumber_27 : decode cX5_proofNumber 27 = .ok (.if_icmp .ne 6, 3) := by decide +kernel
theorem dX5_proofNumber_30 : decode cX5_proofNumber 30 = .ok (.iload 4, 2) := by decide +kernel
theorem dX5_proofNumber_32 : decode cX5_proofNumber 32 = .ok (.ireturn, 1) := by decide +kernel
theorem dX5_proofNumber_33 : decode cX5_proofNumber 33 = .ok (.iinc 2 1, 3) := by decide +kernel
theorem dX5_proofNumber_36 : decode cX5_proofNumber 36 = .ok (.iinc 3 1, 3) := by decide +kernel
theorem dX5_proofNumber_39 : decode cX5_proofNumber 39 = .ok (.goto (-35), 3) := by decide +kernel
theorem dX5_proofNumber_42 : decode cX5_proofNumber 42 = .ok (.bipush (-4), 2) := by decide +kernel
theorem dX5_proofNumber_44 : decode cX5_proofNumber 44 = .ok (.ireturn, 1) := by decide +kernel
theorem dX5_firstSentElsewhere_0 : decode cX5_firstSentElsewhere 0 = .ok (.iconst 0, 1) := by decide +kernel
theorem dX5_firstSentElsewhere_1 : decode cX5_firstSentElsewhere 1 = .ok (.istore_n 1, 1) := by decide +kernel
theorem dX5_firstSentElsewhere_2 : decode cX5_firstSentElsewhere 2 = .ok (.iload_n 1, 1) := by decide +kernel
theorem dX5_firstSentElsewhere_3 : decode cX5_firstSentElsewhere 3 = .ok (.sipush 256, 3) := by decide +kernel
theorem dX5_firstSentElsewhere_6 : decode cX5_firstSentElsewhere 6 = .ok (.if_icmp .ge 34, 3) := by decide +kernel
theorem dX5_firstSentElsewhere_9 : decode cX5_firstSentElsewhere 9 = .ok (.aload_n 0, 1) := by decide +kernel
theorem dX5_firstSentElsewhere_10 : decode cX5_firstSentElsewhere 10 = .ok (.getfield 9, 3) := by decide +kernel
theorem dX5_firstSentElsewhere_13 : decode cX5_firstSentElsewhere 13 = .ok (.sipush 256, 3) := by decide +kernel
theorem dX5_firstSentElsewhere_16 : decode cX5_firstSentElsewhere 16 = .ok (.iload_n 1, 1) := by decide +kernel
theorem dX5_firstSentElsewhere_17 : decode cX5_firstSentElsewhere 17 = .ok (.iadd, 1) := by decide +kernel
theorem dX5_firstSentElsewhere_18 : decode cX5_firstSentElsewhere 18 = .ok (.iaload, 1) := by decide +kernel
theorem dX5_firstSentElsewhere_19 : decode cX5_firstSentElsewhere 19 = .ok (.aload_n 0, 1) := by decide +kernel
theorem dX5_firstSentElsewhere_20 : decode cX5_firstSentElsewhere 20 = .ok (.getfield 15, 3) := by decide +kernel
theorem dX5_firstSentElsewhere_23 : decode cX5_firstSentElsewhere 23 = .ok (.sipush 256, 3) := by decide +kernel
theorem dX5_firstSentElsewhere_26 : decode cX5_firstSentElsewhere 26 = .ok (.iload_n 1, 1) := by decide +kernel
theorem dX5_firstSentElsewhere_27 : decode cX5_firstSentElsewhere 27 = .ok (.iadd, 1) := by decide +kernel
theorem dX5_firstSentElsewhere_28 : decode cX5_firstSentElsewhere 28 = .ok (.iaload, 1) := by decide +kernel
theorem dX5_firstSentElsewhere_29 : decode cX5_firstSentElsewhere 29 = .ok (.if_icmp .eq 5, 3) := by decide +kernel
theorem dX5_firstSentElsewhere_32 : decode cX5_firstSentElsewhere 32 = .ok (.iload_n 1, 1) := by decide +kernel
theorem dX5_firstSentElsewhere_33 : decode cX5_firstSentElsewhere 33 = .ok (.ireturn, 1) := by decide +kernel
theorem dX5_firstSentElsewhere_34 : decode cX5_firstSentElsewhere 34 = .ok (.iinc 1 1, 3) := by decide +kernel
theorem dX5_firstSentElsewhere_37 : decode cX5_firstSentElsewhere 37 = .ok (.goto (-35), 3) := by decide +kernel
theorem dX5_firstSentElsewhere_40 : decode cX5_firstSentElsewhere 40 = .ok (.bipush (-4), 2) := by decide +kernel
theorem dX5_firstSentElsewhere_42 : decode cX5_firstSentElsewhere 42 = .ok (.ireturn, 1) := by decide +kernel
set_option maxRecDepth 20000 in
theorem ggX5_proofFrom_X5_hopsBeneath : GoodIn wsX5_proofFrom wsX5_hopsBeneath := goodIn_r _ [5, 6, 7, 8, 9, 33, 34, 35, 36, 37, 38, 39] (by decide +kernel) (by decide +kernel)
set_option maxRecDepth 20000 in
theorem gX5_proofFrom_X5_hopsBeneath : GoodIn wsX5_proofFrom (wsV RX5 75 RX5 yX5_hopsBeneath wsX5_hopsBeneath) := goodIn_app (goodIn_of _ (by decide +kernel)) ggX5_proofFrom_X5_hopsBeneath
set_option maxRecDepth 20000 in
theorem ggX5_proofFrom_X6_isOneHop : GoodIn wsX5_proofFrom wsX6_isOneHop := goodIn_r _ [11, 12, 13, 14, 15, 16, 17, 18] (by decide +kernel) (by decide +kernel)
set_option maxRecDepth 20000 in
theorem gX5_proofFrom_X6_isOneHop_n78 : GoodIn wsX5_proofFrom (wsX6_isOneHop) := ggX5_proofFrom_X6_isOneHop
set_option maxRecDepth 20000 in
theorem ggX5_proofFrom_X5_installedHopsBeneath : GoodIn wsX5_proofFrom wsX5_installedHopsBeneath := goodIn_r _ [22, 23, 7, 8, 9, 33, 34, 35, 36, 37, 38, 39] (by decide +kernel) (by decide +kernel)
set_option maxRecDepth 20000 in
theorem gX5_proofFrom_X5_installedHopsBeneath : GoodIn wsX5_proofFrom (wsV RX5 81 RX5 yX5_installedHopsBeneath wsX5_installedHopsBeneath) := goodIn_app (goodIn_of _ (by decide +kernel)) ggX5_proofFrom_X5_installedHopsBeneath
set_option maxRecDepth 20000 in
theorem ggX5_proofFrom_X6_firstAddress : GoodIn wsX5_proofFrom wsX6_firstAddress := goodIn_r _ [25, 26, 27, 8, 28, 29, 30, 14, 31, 32] (by decide +kernel) (by decide +kernel)
set_option maxRecDepth 20000 in
theorem gX5_proofFrom_X6_firstAddress_n84 : GoodIn wsX5_proofFrom (wsX6_firstAddress) := ggX5_proofFrom_X6_firstAddress
theorem dX5_proofFrom_0 : decode cX5_proofFrom 0 = .ok (.iconst 0, 1) := by decide +kernel
theorem dX5_proofFrom_1 : decode cX5_proofFrom 1 = .ok (.istore_n 2, 1) := by decide +kernel
theorem dX5_proofFrom_2 : decode cX5_proofFrom 2 = .ok (.iload_n 2, 1) := by decide +kernel
theorem dX5_proofFrom_3 : decode cX5_proofFrom 3 = .ok (.bipush 8, 2) := by decide +kernel
theorem dX5_proofFrom_5 : decode cX5_proofFrom 5 = .ok (.if_icmp .gt 57, 3) := by decide +kernel
theorem dX5_proofFrom_8 : decode cX5_proofFrom 8 = .ok (.sipush 256, 3) := by decide +kernel
theorem dX5_proofFrom_11 : decode cX5_proofFrom 11 = .ok (.iload_n 1, 1) := by decide +kernel
theorem dX5_proofFrom_12 : decode cX5_proofFrom 12 = .ok (.iadd, 1) := by decide +kernel
theorem dX5_proofFrom_13 : decode cX5_proofFrom 13 = .ok (.bipush 8, 2) := by decide +kernel
theorem dX5_proofFrom_15 : decode cX5_proofFrom 15 = .ok (.iload_n 2, 1) := by decide +kernel
theorem dX5_proofFrom_16 : decode cX5_proofFrom 16 = .ok (.isub, 1) := by decide +kernel
theorem dX5_proofFrom_17 : decode cX5_proofFrom 17 = .ok (.ishr, 1) := by decide +kernel
theorem dX5_proofFrom_18 : decode cX5_proofFrom 18 = .ok (.istore_n 3, 1) := by decide +kernel
theorem dX5_proofFrom_19 : decode cX5_proofFrom 19 = .ok (.aload_n 0, 1) := by decide +kernel
theorem dX5_proofFrom_20 : decode cX5_proofFrom 20 = .ok (.iload_n 3, 1) := by decide +kernel
theorem dX5_proofFrom_21 : decode cX5_proofFrom 21 = .ok (.invokevirtual 75, 3) := by decide +kernel
theorem dX5_proofFrom_24 : decode cX5_proofFrom 24 = .ok (.invokestatic 78, 3) := by decide +kernel
theorem dX5_proofFrom_27 : decode cX5_proofFrom 27 = .ok (.ifCond .eq 29, 3) := by decide +kernel
theorem dX5_proofFrom_30 : decode cX5_proofFrom 30 = .ok (.aload_n 0, 1) := by decide +kernel
theorem dX5_proofFrom_31 : decode cX5_proofFrom 31 = .ok (.iload_n 3, 1) := by decide +kernel
theorem dX5_proofFrom_32 : decode cX5_proofFrom 32 = .ok (.invokevirtual 81, 3) := by decide +kernel
theorem dX5_proofFrom_35 : decode cX5_proofFrom 35 = .ok (.invokestatic 78, 3) := by decide +kernel
theorem dX5_proofFrom_38 : decode cX5_proofFrom 38 = .ok (.ifCond .eq 18, 3) := by decide +kernel
theorem dX5_proofFrom_41 : decode cX5_proofFrom 41 = .ok (.iload_n 3, 1) := by decide +kernel
theorem dX5_proofFrom_42 : decode cX5_proofFrom 42 = .ok (.invokestatic 84, 3) := by decide +kernel
theorem dX5_proofFrom_45 : decode cX5_proofFrom 45 = .ok (.iload_n 1, 1) := by decide +kernel
theorem dX5_proofFrom_46 : decode cX5_proofFrom 46 = .ok (.if_icmp .ne 7, 3) := by decide +kernel
theorem dX5_proofFrom_49 : decode cX5_proofFrom 49 = .ok (.iload_n 3, 1) := by decide +kernel
theorem dX5_proofFrom_50 : decode cX5_proofFrom 50 = .ok (.goto 5, 3) := by decide +kernel
theorem dX5_proofFrom_53 : decode cX5_proofFrom 53 = .ok (.bipush (-4), 2) := by decide +kernel
theorem dX5_proofFrom_55 : decode cX5_proofFrom 55 = .ok (.ireturn, 1) := by decide +kernel
theorem dX5_proofFrom_56 : decode cX5_proofFrom 56 = .ok (.iinc 2 1, 3) := by decide +kernel
theorem dX5_proofFrom_59 : decode cX5_proofFrom 59 = .ok (.goto (-57), 3) := by decide +kernel
theorem dX5_proofFrom_62 : decode cX5_proofFrom 62 = .ok (.bipush (-4), 2) := by decide +kernel
theorem dX5_proofFrom_64 : decode cX5_proofFrom 64 = .ok (.ireturn, 1) := by decide +kernel
set_option maxRecDepth 20000 in
theorem ggX5_spread_X3_hopAt : GoodIn wsX5_spread wsX3_hopAt := goodIn_r _ [9, 10, 11, 12] (by decide +kernel) (by decide +kernel)
set_option maxRecDepth 20000 in
theorem gX5_spread_X3_hopAt : GoodIn wsX5_spread (wsV RX5 66 RX3 yX3_hopAt wsX3_hopAt) := goodIn_app (goodIn_of _ (by decide +kernel)) ggX5_spread_X3_hopAt
theorem dX5_spread_0 : decode cX5_spread 0 = .ok (.aload_n 1, 1) := by decide +kernel
theorem dX5_spread_1 : decode cX5_spread 1 = .ok (.iconst 1, 1) := by decide +kernel
theorem dX5_spread_2 : decode cX5_spread 2 = .ok (.iconst 1, 1) := by decide +kernel
theorem dX5_spread_3 : decode cX5_spread 3 = .ok (.aload_n 0, 1) := by decide +kernel
theorem dX5_spread_4 : decode cX5_spread 4 = .ok (.iconst 1, 1) := by decide +kernel
theorem dX5_spread_5 : decode cX5_spread 5 = .ok (.invokevirtual 66, 3) := by decide +kernel
theorem dX5_spread_8 : decode cX5_spread 8 = .ok (.iconst 0, 1) := by decide +kernel
theorem dX5_spread_9 : decode cX5_spread 9 = .ok (.invokestatic 87, 3) := by decide +kernel
theorem dX5_spread_12 : decode cX5_spread 12 = .ok (.ishl, 1) := by decide +kernel
theorem dX5_spread_13 : decode cX5_spread 13 = .ok (.iastore, 1) := by decide +kernel
theorem dX5_spread_14 : decode cX5_spread 14 = .ok (.iconst 2, 1) := by decide +kernel
theorem dX5_spread_15 : decode cX5_spread 15 = .ok (.istore_n 2, 1) := by decide +kernel
theorem dX5_spread_16 : decode cX5_spread 16 = .ok (.iload_n 2, 1) := by decide +kernel
theorem dX5_spread_17 : decode cX5_spread 17 = .ok (.sipush 512, 3) := by decide +kernel
theorem dX5_spread_20 : decode cX5_spread 20 = .ok (.if_icmp .ge 35, 3) := by decide +kernel
theorem dX5_spread_23 : decode cX5_spread 23 = .ok (.aload_n 0, 1) := by decide +kernel
theorem dX5_spread_24 : decode cX5_spread 24 = .ok (.iload_n 2, 1) := by decide +kernel
theorem dX5_spread_25 : decode cX5_spread 25 = .ok (.invokevirtual 66, 3) := by decide +kernel
theorem dX5_spread_28 : decode cX5_spread 28 = .ok (.istore_n 3, 1) := by decide +kernel
theorem dX5_spread_29 : decode cX5_spread 29 = .ok (.aload_n 1, 1) := by decide +kernel
theorem dX5_spread_30 : decode cX5_spread 30 = .ok (.iload_n 2, 1) := by decide +kernel
theorem dX5_spread_31 : decode cX5_spread 31 = .ok (.iload_n 3, 1) := by decide +kernel
theorem dX5_spread_32 : decode cX5_spread 32 = .ok (.bipush (-4), 2) := by decide +kernel
theorem dX5_spread_34 : decode cX5_spread 34 = .ok (.if_icmp .ne 11, 3) := by decide +kernel
theorem dX5_spread_37 : decode cX5_spread 37 = .ok (.aload_n 1, 1) := by decide +kernel
theorem dX5_spread_38 : decode cX5_spread 38 = .ok (.iload_n 2, 1) := by decide +kernel
theorem dX5_spread_39 : decode cX5_spread 39 = .ok (.iconst 1, 1) := by decide +kernel
theorem dX5_spread_40 : decode cX5_spread 40 = .ok (.ishr, 1) := by decide +kernel
theorem dX5_spread_41 : decode cX5_spread 41 = .ok (.iaload, 1) := by decide +kernel
theorem dX5_spread_42 : decode cX5_spread 42 = .ok (.goto 6, 3) := by decide +kernel
theorem dX5_spread_45 : decode cX5_spread 45 = .ok (.iconst 1, 1) := by decide +kernel
theorem dX5_spread_46 : decode cX5_spread 46 = .ok (.iload_n 3, 1) := by decide +kernel
theorem dX5_spread_47 : decode cX5_spread 47 = .ok (.ishl, 1) := by decide +kernel
theorem dX5_spread_48 : decode cX5_spread 48 = .ok (.iastore, 1) := by decide +kernel
theorem dX5_spread_49 : decode cX5_spread 49 = .ok (.iinc 2 1, 3) := by decide +kernel
theorem dX5_spread_52 : decode cX5_spread 52 = .ok (.goto (-36), 3) := by decide +kernel
theorem dX5_spread_55 : decode cX5_spread 55 = .ok (.sipush 255, 3) := by decide +kernel
theorem dX5_spread_58 : decode cX5_spread 58 = .ok (.istore_n 2, 1) := by decide +kernel
theorem dX5_spread_59 : decode cX5_spread 59 = .ok (.iload_n 2, 1) := by decide +kernel
theorem dX5_spread_60 : decode cX5_spread 60 = .ok (.iconst 1, 1) := by decide +kernel
theorem dX5_spread_61 : decode cX5_spread 61 = .ok (.if_icmp .lt 25, 3) := by decide +kernel
theorem dX5_spread_64 : decode cX5_spread 64 = .ok (.aload_n 1, 1) := by decide +kernel
theorem dX5_spread_65 : decode cX5_spread 65 = .ok (.iload_n 2, 1) := by decide +kernel
theorem dX5_spread_66 : decode cX5_spread 66 = .ok (.aload_n 1, 1) := by decide +kernel
theorem dX5_spread_67 : decode cX5_spread 67 = .ok (.iconst 2, 1) := by decide +kernel
theorem dX5_spread_68 : decode cX5_spread 68 = .ok (.iload_n 2, 1) := by decide +kernel
theorem dX5_spread_69 : decode cX5_spread 69 = .ok (.imul, 1) := by decide +kernel
theorem dX5_spread_70 : decode cX5_spread 70 = .ok (.iaload, 1) := by decide +kernel
theorem dX5_spread_71 : decode cX5_spread 71 = .ok (.aload_n 1, 1) := by decide +kernel
theorem dX5_spread_72 : decode cX5_spread 72 = .ok (.iconst 2, 1) := by decide +kernel
theorem dX5_spread_73 : decode cX5_spread 73 = .ok (.iload_n 2, 1) := by decide +kernel
theorem dX5_spread_74 : decode cX5_spread 74 = .ok (.imul, 1) := by decide +kernel
theorem dX5_spread_75 : decode cX5_spread 75 = .ok (.iconst 1, 1) := by decide +kernel
theorem dX5_spread_76 : decode cX5_spread 76 = .ok (.iadd, 1) := by decide +kernel
theorem dX5_spread_77 : decode cX5_spread 77 = .ok (.iaload, 1) := by decide +kernel
theorem dX5_spread_78 : decode cX5_spread 78 = .ok (.ior, 1) := by decide +kernel
theorem dX5_spread_79 : decode cX5_spread 79 = .ok (.iastore, 1) := by decide +kernel
theorem dX5_spread_80 : decode cX5_spread 80 = .ok (.iinc 2 (-1), 3) := by decide +kernel
theorem dX5_spread_83 : decode cX5_spread 83 = .ok (.goto (-24), 3) := by decide +kernel
theorem dX5_spread_86 : decode cX5_spread 86 = .ok (.return_, 1) := by decide +kernel
theorem dX5_findBest_0 : decode cX5_findBest 0 = .ok (.sipush 256, 3) := by decide +kernel
theorem dX5_findBest_3 : decode cX5_findBest 3 = .ok (.istore_n 1, 1) := by decide +kernel
theorem dX5_findBest_4 : decode cX5_findBest 4 = .ok (.iload_n 1, 1) := by decide +kernel
theorem dX5_findBest_5 : decode cX5_findBest 5 = .ok (.sipush 512, 3) := by decide +kernel
theorem dX5_findBest_8 : decode cX5_findBest 8 = .ok (.if_icmp .ge 28, 3) := by decide +kernel
theorem dX5_findBest_11 : decode cX5_findBest 11 = .ok (.aload_n 0, 1) := by decide +kernel
theorem dX5_findBest_12 : decode cX5_findBest 12 = .ok (.getfield 18, 3) := by decide +kernel
theorem dX5_findBest_15 : decode cX5_findBest 15 = .ok (.iload_n 1, 1) := by decide +kernel
theorem dX5_findBest_16 : decode cX5_findBest 16 = .ok (.aload_n 0, 1) := by decide +kernel
theorem dX5_findBest_17 : decode cX5_findBest 17 = .ok (.getfield 9, 3) := by decide +kernel
theorem dX5_findBest_20 : decode cX5_findBest 20 = .ok (.iload_n 1, 1) := by decide +kernel
theorem dX5_findBest_21 : decode cX5_findBest 21 = .ok (.iaload, 1) := by decide +kernel
theorem dX5_findBest_22 : decode cX5_findBest 22 = .ok (.iastore, 1) := by decide +kernel
theorem dX5_findBest_23 : decode cX5_findBest 23 = .ok (.aload_n 0, 1) := by decide +kernel
theorem dX5_findBest_24 : decode cX5_findBest 24 = .ok (.getfield 21, 3) := by decide +kernel
theorem dX5_findBest_27 : decode cX5_findBest 27 = .ok (.iload_n 1, 1) := by decide +kernel
theorem dX5_findBest_28 : decode cX5_findBest 28 = .ok (.iconst 0, 1) := by decide +kernel
theorem dX5_findBest_29 : decode cX5_findBest 29 = .ok (.iastore, 1) := by decide +kernel
theorem dX5_findBest_30 : decode cX5_findBest 30 = .ok (.iinc 1 1, 3) := by decide +kernel
theorem dX5_findBest_33 : decode cX5_findBest 33 = .ok (.goto (-29), 3) := by decide +kernel
theorem dX5_findBest_36 : decode cX5_findBest 36 = .ok (.sipush 255, 3) := by decide +kernel
theorem dX5_findBest_39 : decode cX5_findBest 39 = .ok (.istore_n 1, 1) := by decide +kernel
theorem dX5_findBest_40 : decode cX5_findBest 40 = .ok (.iload_n 1, 1) := by decide +kernel
theorem dX5_findBest_41 : decode cX5_findBest 41 = .ok (.iconst 1, 1) := by decide +kernel
theorem dX5_findBest_42 : decode cX5_findBest 42 = .ok (.if_icmp .lt 97, 3) := by decide +kernel
theorem dX5_findBest_45 : decode cX5_findBest 45 = .ok (.aload_n 0, 1) := by decide +kernel
theorem dX5_findBest_46 : decode cX5_findBest 46 = .ok (.getfield 18, 3) := by decide +kernel
theorem dX5_findBest_49 : decode cX5_findBest 49 = .ok (.iconst 2, 1) := by decide +kernel
theorem dX5_findBest_50 : decode cX5_findBest 50 = .ok (.iload_n 1, 1) := by decide +kernel
theorem dX5_findBest_51 : decode cX5_findBest 51 = .ok (.imul, 1) := by decide +kernel
theorem dX5_findBest_52 : decode cX5_findBest 52 = .ok (.iaload, 1) := by decide +kernel
theorem dX5_findBest_53 : decode cX5_findBest 53 = .ok (.aload_n 0, 1) := by decide +kernel
theorem dX5_findBest_54 : decode cX5_findBest 54 = .ok (.getfield 18, 3) := by decide +kernel
theorem dX5_findBest_57 : decode cX5_findBest 57 = .ok (.iconst 2, 1) := by decide +kernel
theorem dX5_findBest_58 : decode cX5_findBest 58 = .ok (.iload_n 1, 1) := by decide +kernel
theorem dX5_findBest_59 : decode cX5_findBest 59 = .ok (.imul, 1) := by decide +kernel
theorem dX5_findBest_60 : decode cX5_findBest 60 = .ok (.iconst 1, 1) := by decide +kernel
theorem dX5_findBest_61 : decode cX5_findBest 61 = .ok (.iadd, 1) := by decide +kernel
theorem dX5_findBest_62 : decode cX5_findBest 62 = .ok (.iaload, 1) := by decide +kernel
theorem dX5_findBest_63 : decode cX5_findBest 63 = .ok (.iand, 1) := by decide +kernel
theorem dX5_findBest_64 : decode cX5_findBest 64 = .ok (.istore_n 2, 1) := by decide +kernel
theorem dX5_findBest_65 : decode cX5_findBest 65 = .ok (.aload_n 0, 1) := by decide +kernel
theorem dX5_findBest_66 : decode cX5_findBest 66 = .ok (.getfield 18, 3) := by decide +kernel
theorem dX5_findBest_69 : decode cX5_findBest 69 = .ok (.iload_n 1, 1) := by decide +kernel
theorem dX5_findBest_70 : decode cX5_findBest 70 = .ok (.iload_n 2, 1) := by decide +kernel
theorem dX5_findBest_71 : decode cX5_findBest 71 = .ok (.ifCond .eq 7, 3) := by decide +kernel
theorem dX5_findBest_74 : decode cX5_findBest 74 = .ok (.iload_n 2, 1) := by decide +kernel
theorem dX5_findBest_75 : decode cX5_findBest 75 = .ok (.goto 22, 3) := by decide +kernel
theorem dX5_findBest_78 : decode cX5_findBest 78 = .ok (.aload_n 0, 1) := by decide +kernel
theorem dX5_findBest_79 : decode cX5_findBest 79 = .ok (.getfield 18, 3) := by decide +kernel
theorem dX5_findBest_82 : decode cX5_findBest 82 = .ok (.iconst 2, 1) := by decide +kernel
theorem dX5_findBest_83 : decode cX5_findBest 83 = .ok (.iload_n 1, 1) := by decide +kernel
theorem dX5_findBest_84 : decode cX5_findBest 84 = .ok (.imul, 1) := by decide +kernel
theorem dX5_findBest_85 : decode cX5_findBest 85 = .ok (.iaload, 1) := by decide +kernel
theorem dX5_findBest_86 : decode cX5_findBest 86 = .ok (.aload_n 0, 1) := by decide +kernel
theorem dX5_findBest_87 : decode cX5_findBest 87 = .ok (.getfield 18, 3) := by decide +kernel
theorem dX5_findBest_90 : decode cX5_findBest 90 = .ok (.iconst 2, 1) := by decide +kernel
theorem dX5_findBest_91 : decode cX5_findBest 91 = .ok (.iload_n 1, 1) := by decide +kernel
theorem dX5_findBest_92 : decode cX5_findBest 92 = .ok (.imul, 1) := by decide +kernel
theorem dX5_findBest_93 : decode cX5_findBest 93 = .ok (.iconst 1, 1) := by decide +kernel
theorem dX5_findBest_94 : decode cX5_findBest 94 = .ok (.iadd, 1) := by decide +kernel
theorem dX5_findBest_95 : decode cX5_findBest 95 = .ok (.iaload, 1) := by decide +kernel
theorem dX5_findBest_96 : decode cX5_findBest 96 = .ok (.ior, 1) := by decide +kernel
theorem dX5_findBest_97 : decode cX5_findBest 97 = .ok (.iastore, 1) := by decide +kernel
theorem dX5_findBest_98 : decode cX5_findBest 98 = .ok (.aload_n 0, 1) := by decide +kernel
theorem dX5_findBest_99 : decode cX5_findBest 99 = .ok (.getfield 21, 3) := by decide +kernel
theorem dX5_findBest_102 : decode cX5_findBest 102 = .ok (.iload_n 1, 1) := by decide +kernel
theorem dX5_findBest_103 : decode cX5_findBest 103 = .ok (.aload_n 0, 1) := by decide +kernel
theorem dX5_findBest_104 : decode cX5_findBest 104 = .ok (.getfield 21, 3) := by decide +kernel
theorem dX5_findBest_107 : decode cX5_findBest 107 = .ok (.iconst 2, 1) := by decide +kernel
theorem dX5_findBest_108 : decode cX5_findBest 108 = .ok (.iload_n 1, 1) := by decide +kernel
theorem dX5_findBest_109 : decode cX5_findBest 109 = .ok (.imul, 1) := by decide +kernel
theorem dX5_findBest_110 : decode cX5_findBest 110 = .ok (.iaload, 1) := by decide +kernel
theorem dX5_findBest_111 : decode cX5_findBest 111 = .ok (.aload_n 0, 1) := by decide +kernel
theorem dX5_findBest_112 : decode cX5_findBest 112 = .ok (.getfield 21, 3) := by decide +kernel
theorem dX5_findBest_115 : decode cX5_findBest 115 = .ok (.iconst 2, 1) := by decide +kernel
theorem dX5_findBest_116 : decode cX5_findBest 116 = .ok (.iload_n 1, 1) := by decide +kernel
theorem dX5_findBest_117 : decode cX5_findBest 117 = .ok (.imul, 1) := by decide +kernel
theorem dX5_findBest_118 : decode cX5_findBest 118 = .ok (.iconst 1, 1) := by decide +kernel
theorem dX5_findBest_119 : decode cX5_findBest 119 = .ok (.iadd, 1) := by decide +kernel
theorem dX5_findBest_120 : decode cX5_findBest 120 = .ok (.iaload, 1) := by decide +kernel
theorem dX5_findBest_121 : decode cX5_findBest 121 = .ok (.iadd, 1) := by decide +kernel
theorem dX5_findBest_122 : decode cX5_findBest 122 = .ok (.iload_n 2, 1) := by decide +kernel
theorem dX5_findBest_123 : decode cX5_findBest 123 = .ok (.ifCond .eq 7, 3) := by decide +kernel
theorem dX5_findBest_126 : decode cX5_findBest 126 = .ok (.iconst 0, 1) := by decide +kernel
theorem dX5_findBest_127 : decode cX5_findBest 127 = .ok (.goto 4, 3) := by decide +kernel
theorem dX5_findBest_130 : decode cX5_findBest 130 = .ok (.iconst 1, 1) := by decide +kernel
theorem dX5_findBest_131 : decode cX5_findBest 131 = .ok (.iadd, 1) := by decide +kernel
theorem dX5_findBest_132 : decode cX5_findBest 132 = .ok (.iastore, 1) := by decide +kernel
theorem dX5_findBest_133 : decode cX5_findBest 133 = .ok (.iinc 1 (-1), 3) := by decide +kernel
theorem dX5_findBest_136 : decode cX5_findBest 136 = .ok (.goto (-96), 3) := by decide +kernel
theorem dX5_findBest_139 : decode cX5_findBest 139 = .ok (.return_, 1) := by decide +kernel
set_option maxRecDepth 20000 in
theorem ggX5_findLeast_X3_makeEmpty : GoodIn wsX5_findLeast wsX3_makeEmpty := goodIn_r _ [8, 9, 10, 11, 12, 13, 14, 52, 53] (by decide +kernel) (by decide +kernel)
set_option maxRecDepth 20000 in
theorem gX5_findLeast_X3_makeEmpty : GoodIn wsX5_findLeast (wsV RX5 93 RX3 yX3_makeEmpty wsX3_makeEmpty) := goodIn_app (goodIn_of _ (by decide +kernel)) ggX5_findLeast_X3_makeEmpty
set_option maxRecDepth 20000 in
theorem ggX5_findLeast_X5_hasBit : GoodIn wsX5_findLeast wsX5_hasBit := goodIn_r _ [18] (by decide +kernel) (by decide +kernel)
set_option maxRecDepth 20000 in
theorem gX5_findLeast_X5_hasBit : GoodIn wsX5_findLeast (va_wsS RX5 62 yX5_hasBit wsX5_hasBit) := goodIn_app (goodIn_of _ (by decide +kernel)) ggX5_findLeast_X5_hasBit
set_option maxRecDepth 20000 in
theorem ggX5_findLeast_X6_lowestHop : GoodIn wsX5_findLeast wsX6_lowestHop := goodIn_r _ [21, 22, 23, 24, 25, 26] (by decide +kernel) (by decide +kernel)
set_option maxRecDepth 20000 in
theorem gX5_findLeast_X6_lowestHop_n96 : GoodIn wsX5_findLeast (wsX6_lowestHop) := ggX5_findLeast_X6_lowestHop
set_option maxRecDepth 20000 in
theorem ggX5_findLeast_X3_put : GoodIn wsX5_findLeast wsX3_put := goodIn_r _ [30, 10, 31, 20, 32, 33, 34, 35, 36, 37, 7, 38, 9, 39, 40, 41, 42, 43, 44, 52, 53] (by decide +kernel) (by decide +kernel)
set_option maxRecDepth 20000 in
theorem gX5_findLeast_X3_put : GoodIn wsX5_findLeast (wsV RX5 99 RX3 yX3_put wsX3_put) := goodIn_app (goodIn_of _ (by decide +kernel)) ggX5_findLeast_X3_put
theorem dX5_findLeast_0 : decode cX5_findLeast 0 = .ok (.aload_n 0, 1) := by decide +kernel
theorem dX5_findLeast_1 : decode cX5_findLeast 1 = .ok (.getfield 34, 3) := by decide +kernel
theorem dX5_findLeast_4 : decode cX5_findLeast 4 = .ok (.invokevirtual 93, 3) := by decide +kernel
theorem dX5_findLeast_7 : decode cX5_findLeast 7 = .ok (.iconst 1, 1) := by decide +kernel
theorem dX5_findLeast_8 : decode cX5_findLeast 8 = .ok (.istore_n 1, 1) := by decide +kernel
theorem dX5_findLeast_9 : decode cX5_findLeast 9 = .ok (.iload_n 1, 1) := by decide +kernel
theorem dX5_findLeast_10 : decode cX5_findLeast 10 = .ok (.sipush 512, 3) := by decide +kernel
theorem dX5_findLeast_13 : decode cX5_findLeast 13 = .ok (.if_icmp .ge 79, 3) := by decide +kernel
theorem dX5_findLeast_16 : decode cX5_findLeast 16 = .ok (.iload_n 1, 1) := by decide +kernel
theorem dX5_findLeast_17 : decode cX5_findLeast 17 = .ok (.iconst 1, 1) := by decide +kernel
theorem dX5_findLeast_18 : decode cX5_findLeast 18 = .ok (.if_icmp .ne 7, 3) := by decide +kernel
theorem dX5_findLeast_21 : decode cX5_findLeast 21 = .ok (.iconst 0, 1) := by decide +kernel
theorem dX5_findLeast_22 : decode cX5_findLeast 22 = .ok (.goto 11, 3) := by decide +kernel
theorem dX5_findLeast_25 : decode cX5_findLeast 25 = .ok (.aload_n 0, 1) := by decide +kernel
theorem dX5_findLeast_26 : decode cX5_findLeast 26 = .ok (.getfield 24, 3) := by decide +kernel
theorem dX5_findLeast_29 : decode cX5_findLeast 29 = .ok (.iload_n 1, 1) := by decide +kernel
theorem dX5_findLeast_30 : decode cX5_findLeast 30 = .ok (.iconst 1, 1) := by decide +kernel
theorem dX5_findLeast_31 : decode cX5_findLeast 31 = .ok (.ishr, 1) := by decide +kernel
theorem dX5_findLeast_32 : decode cX5_findLeast 32 = .ok (.iaload, 1) := by decide +kernel
theorem dX5_findLeast_33 : decode cX5_findLeast 33 = .ok (.istore_n 2, 1) := by decide +kernel
theorem dX5_findLeast_34 : decode cX5_findLeast 34 = .ok (.aload_n 0, 1) := by decide +kernel
theorem dX5_findLeast_35 : decode cX5_findLeast 35 = .ok (.getfield 18, 3) := by decide +kernel
theorem dX5_findLeast_38 : decode cX5_findLeast 38 = .ok (.iload_n 1, 1) := by decide +kernel
theorem dX5_findLeast_39 : decode cX5_findLeast 39 = .ok (.iaload, 1) := by decide +kernel
theorem dX5_findLeast_40 : decode cX5_findLeast 40 = .ok (.iload_n 2, 1) := by decide +kernel
theorem dX5_findLeast_41 : decode cX5_findLeast 41 = .ok (.invokestatic 62, 3) := by decide +kernel
theorem dX5_findLeast_44 : decode cX5_findLeast 44 = .ok (.ifCond .eq 13, 3) := by decide +kernel
theorem dX5_findLeast_47 : decode cX5_findLeast 47 = .ok (.aload_n 0, 1) := by decide +kernel
theorem dX5_findLeast_48 : decode cX5_findLeast 48 = .ok (.getfield 24, 3) := by decide +kernel
theorem dX5_findLeast_51 : decode cX5_findLeast 51 = .ok (.iload_n 1, 1) := by decide +kernel
theorem dX5_findLeast_52 : decode cX5_findLeast 52 = .ok (.iload_n 2, 1) := by decide +kernel
theorem dX5_findLeast_53 : decode cX5_findLeast 53 = .ok (.iastore, 1) := by decide +kernel
theorem dX5_findLeast_54 : decode cX5_findLeast 54 = .ok (.goto 32, 3) := by decide +kernel
theorem dX5_findLeast_57 : decode cX5_findLeast 57 = .ok (.aload_n 0, 1) := by decide +kernel
theorem dX5_findLeast_58 : decode cX5_findLeast 58 = .ok (.getfield 24, 3) := by decide +kernel
theorem dX5_findLeast_61 : decode cX5_findLeast 61 = .ok (.iload_n 1, 1) := by decide +kernel
theorem dX5_findLeast_62 : decode cX5_findLeast 62 = .ok (.aload_n 0, 1) := by decide +kernel
theorem dX5_findLeast_63 : decode cX5_findLeast 63 = .ok (.getfield 18, 3) := by decide +kernel
theorem dX5_findLeast_66 : decode cX5_findLeast 66 = .ok (.iload_n 1, 1) := by decide +kernel
theorem dX5_findLeast_67 : decode cX5_findLeast 67 = .ok (.iaload, 1) := by decide +kernel
theorem dX5_findLeast_68 : decode cX5_findLeast 68 = .ok (.invokestatic 96, 3) := by decide +kernel
theorem dX5_findLeast_71 : decode cX5_findLeast 71 = .ok (.iastore, 1) := by decide +kernel
theorem dX5_findLeast_72 : decode cX5_findLeast 72 = .ok (.aload_n 0, 1) := by decide +kernel
theorem dX5_findLeast_73 : decode cX5_findLeast 73 = .ok (.getfield 34, 3) := by decide +kernel
theorem dX5_findLeast_76 : decode cX5_findLeast 76 = .ok (.iload_n 1, 1) := by decide +kernel
theorem dX5_findLeast_77 : decode cX5_findLeast 77 = .ok (.aload_n 0, 1) := by decide +kernel
theorem dX5_findLeast_78 : decode cX5_findLeast 78 = .ok (.getfield 24, 3) := by decide +kernel
theorem dX5_findLeast_81 : decode cX5_findLeast 81 = .ok (.iload_n 1, 1) := by decide +kernel
theorem dX5_findLeast_82 : decode cX5_findLeast 82 = .ok (.iaload, 1) := by decide +kernel
theorem dX5_findLeast_83 : decode cX5_findLeast 83 = .ok (.invokevirtual 99, 3) := by decide +kernel
theorem dX5_findLeast_86 : decode cX5_findLeast 86 = .ok (.iinc 1 1, 3) := by decide +kernel
theorem dX5_findLeast_89 : decode cX5_findLeast 89 = .ok (.goto (-80), 3) := by decide +kernel
theorem dX5_findLeast_92 : decode cX5_findLeast 92 = .ok (.return_, 1) := by decide +kernel
theorem dX5_hasBit_0 : decode cX5_hasBit 0 = .ok (.iload_n 0, 1) := by decide +kernel
theorem dX5_hasBit_1 : decode cX5_hasBit 1 = .ok (.iload_n 1, 1) := by decide +kernel
theorem dX5_hasBit_2 : decode cX5_hasBit 2 = .ok (.ishr, 1) := by decide +kernel
theorem dX5_hasBit_3 : decode cX5_hasBit 3 = .ok (.iconst 1, 1) := by decide +kernel
theorem dX5_hasBit_4 : decode cX5_hasBit 4 = .ok (.iand, 1) := by decide +kernel
theorem dX5_hasBit_5 : decode cX5_hasBit 5 = .ok (.iconst 1, 1) := by decide +kernel
theorem dX5_hasBit_6 : decode cX5_hasBit 6 = .ok (.if_icmp .ne 7, 3) := by decide +kernel
theorem dX5_hasBit_9 : decode cX5_hasBit 9 = .ok (.iconst 1, 1) := by decide +kernel
theorem dX5_hasBit_10 : decode cX5_hasBit 10 = .ok (.goto 4, 3) := by decide +kernel
theorem dX5_hasBit_13 : decode cX5_hasBit 13 = .ok (.iconst 0, 1) := by decide +kernel
theorem dX5_hasBit_14 : decode cX5_hasBit 14 = .ok (.ireturn, 1) := by decide +kernel
set_option maxRecDepth 20000 in
theorem ggX6_init_X0_init : GoodIn wsX6_init wsX0_init := goodIn_r _ [25, 26, 2, 3, 27, 28, 29, 30, 31, 32, 33, 34, 35, 36, 37, 38, 39, 40, 41, 42, 43, 44, 45, 46, 47, 100, 101, 102, 75, 76, 77, 103, 104] (by decide +kernel) (by decide +kernel)
set_option maxRecDepth 20000 in
theorem gX6_init_X0_init : GoodIn wsX6_init (wsX0_init) := ggX6_init_X0_init
set_option maxRecDepth 20000 in
theorem ggX6_init_X5_init : GoodIn wsX6_init wsX5_init := goodIn_r _ [49, 50, 2, 3, 51, 52, 53, 54, 55, 56, 57, 37, 38, 58, 59, 42, 43, 44, 45, 46, 47, 85, 86, 87, 88, 89, 90, 91, 103, 104] (by decide +kernel) (by decide +kernel)
set_option maxRecDepth 20000 in
theorem gX6_init_X5_init_n21 : GoodIn wsX6_init (wsX5_init) := ggX6_init_X5_init
set_option maxRecDepth 20000 in
theorem ggX6_init_X4_init : GoodIn wsX6_init wsX4_init := goodIn_r _ [61, 62, 2, 3, 51, 63, 64, 37, 38, 65, 66, 67, 68, 42, 43, 44, 45, 46, 47, 92, 93, 94, 95, 96, 103, 104] (by decide +kernel) (by decide +kernel)
set_option maxRecDepth 20000 in
theorem gX6_init_X4_init_n28 : GoodIn wsX6_init (wsX4_init) := ggX6_init_X4_init
set_option maxRecDepth 20000 in
theorem ggX6_init_X2_init : GoodIn wsX6_init wsX2_init := goodIn_r _ [70, 71, 2, 3, 45, 72, 73, 74, 97, 98, 99] (by decide +kernel) (by decide +kernel)
set_option maxRecDepth 20000 in
theorem gX6_init_X2_init_n46 : GoodIn wsX6_init (wsX2_init) := ggX6_init_X2_init
theorem dX6_init_0 : decode cX6_init 0 = .ok (.aload_n 0, 1) := by decide +kernel
theorem dX6_init_1 : decode cX6_init 1 = .ok (.invokespecial 1, 3) := by decide +kernel
theorem dX6_init_4 : decode cX6_init 4 = .ok (.aload_n 0, 1) := by decide +kernel
theorem dX6_init_5 : decode cX6_init 5 = .ok (.new 7, 3) := by decide +kernel
theorem dX6_init_8 : decode cX6_init 8 = .ok (.dup, 1) := by decide +kernel
theorem dX6_init_9 : decode cX6_init 9 = .ok (.invokespecial 9, 3) := by decide +kernel
theorem dX6_init_12 : decode cX6_init 12 = .ok (.putfield 10, 3) := by decide +kernel
theorem dX6_init_15 : decode cX6_init 15 = .ok (.aload_n 0, 1) := by decide +kernel
theorem dX6_init_16 : decode cX6_init 16 = .ok (.new 7, 3) := by decide +kernel
theorem dX6_init_19 : decode cX6_init 19 = .ok (.dup, 1) := by decide +kernel
theorem dX6_init_20 : decode cX6_init 20 = .ok (.invokespecial 9, 3) := by decide +kernel
theorem dX6_init_23 : decode cX6_init 23 = .ok (.putfield 16, 3) := by decide +kernel
theorem dX6_init_26 : decode cX6_init 26 = .ok (.aload_n 0, 1) := by decide +kernel
theorem dX6_init_27 : decode cX6_init 27 = .ok (.new 19, 3) := by decide +kernel
theorem dX6_init_30 : decode cX6_init 30 = .ok (.dup, 1) := by decide +kernel
theorem dX6_init_31 : decode cX6_init 31 = .ok (.invokespecial 21, 3) := by decide +kernel
theorem dX6_init_34 : decode cX6_init 34 = .ok (.putfield 22, 3) := by decide +kernel
theorem dX6_init_37 : decode cX6_init 37 = .ok (.aload_n 0, 1) := by decide +kernel
theorem dX6_init_38 : decode cX6_init 38 = .ok (.new 26, 3) := by decide +kernel
theorem dX6_init_41 : decode cX6_init 41 = .ok (.dup, 1) := by decide +kernel
theorem dX6_init_42 : decode cX6_init 42 = .ok (.invokespecial 28, 3) := by decide +kernel
theorem dX6_init_45 : decode cX6_init 45 = .ok (.putfield 29, 3) := by decide +kernel
theorem dX6_init_48 : decode cX6_init 48 = .ok (.aload_n 0, 1) := by decide +kernel
theorem dX6_init_49 : decode cX6_init 49 = .ok (.iconst 4, 1) := by decide +kernel
theorem dX6_init_50 : decode cX6_init 50 = .ok (.anewarray 33, 3) := by decide +kernel
theorem dX6_init_53 : decode cX6_init 53 = .ok (.putfield 35, 3) := by decide +kernel
theorem dX6_init_56 : decode cX6_init 56 = .ok (.aload_n 0, 1) := by decide +kernel
theorem dX6_init_57 : decode cX6_init 57 = .ok (.iconst 0, 1) := by decide +kernel
theorem dX6_init_58 : decode cX6_init 58 = .ok (.putfield 39, 3) := by decide +kernel
theorem dX6_init_61 : decode cX6_init 61 = .ok (.aload_n 0, 1) := by decide +kernel
theorem dX6_init_62 : decode cX6_init 62 = .ok (.iconst 1, 1) := by decide +kernel
theorem dX6_init_63 : decode cX6_init 63 = .ok (.putfield 43, 3) := by decide +kernel
theorem dX6_init_66 : decode cX6_init 66 = .ok (.iconst 0, 1) := by decide +kernel
theorem dX6_init_67 : decode cX6_init 67 = .ok (.istore_n 1, 1) := by decide +kernel
theorem dX6_init_68 : decode cX6_init 68 = .ok (.iload_n 1, 1) := by decide +kernel
theorem dX6_init_69 : decode cX6_init 69 = .ok (.iconst 4, 1) := by decide +kernel
theorem dX6_init_70 : decode cX6_init 70 = .ok (.if_icmp .ge 22, 3) := by decide +kernel
theorem dX6_init_73 : decode cX6_init 73 = .ok (.aload_n 0, 1) := by decide +kernel
theorem dX6_init_74 : decode cX6_init 74 = .ok (.getfield 35, 3) := by decide +kernel
theorem dX6_init_77 : decode cX6_init 77 = .ok (.iload_n 1, 1) := by decide +kernel
theorem dX6_init_78 : decode cX6_init 78 = .ok (.new 33, 3) := by decide +kernel
theorem dX6_init_81 : decode cX6_init 81 = .ok (.dup, 1) := by decide +kernel
theorem dX6_init_82 : decode cX6_init 82 = .ok (.invokespecial 46, 3) := by decide +kernel
theorem dX6_init_85 : decode cX6_init 85 = .ok (.aastore, 1) := by decide +kernel
theorem dX6_init_86 : decode cX6_init 86 = .ok (.iinc 1 1, 3) := by decide +kernel
theorem dX6_init_89 : decode cX6_init 89 = .ok (.goto (-21), 3) := by decide +kernel
theorem dX6_init_92 : decode cX6_init 92 = .ok (.return_, 1) := by decide +kernel
set_option maxRecDepth 20000 in
theorem ggX6_look_X6_isAddress : GoodIn wsX6_look wsX6_isAddress := goodIn_r _ [4] (by decide +kernel) (by decide +kernel)
set_option maxRecDepth 20000 in
theorem gX6_look_X6_isAddress : GoodIn wsX6_look (va_wsS RX6 47 yX6_isAddress wsX6_isAddress) := goodIn_app (goodIn_of _ (by decide +kernel)) ggX6_look_X6_isAddress
set_option maxRecDepth 20000 in
theorem ggX6_look_X6_table : GoodIn wsX6_look wsX6_table := goodIn_r _ [8, 9, 10, 11, 12, 13, 14, 15, 16, 17, 18, 19, 20, 21, 125, 126, 127, 128, 129, 130, 131, 132, 133, 134, 135, 136, 137] (by decide +kernel) (by decide +kernel)
set_option maxRecDepth 20000 in
theorem gX6_look_X6_table : GoodIn wsX6_look (wsV RX6 51 RX6 yX6_table wsX6_table) := goodIn_app (goodIn_of _ (by decide +kernel)) ggX6_look_X6_table
set_option maxRecDepth 20000 in
theorem ggX6_look_X3_hopOfAddress : GoodIn wsX6_look wsX3_hopOfAddress := goodIn_r _ [26, 27, 28, 29, 25, 30, 31, 32, 33, 34, 35, 138, 139] (by decide +kernel) (by decide +kernel)
set_option maxRecDepth 20000 in
theorem gX6_look_X3_hopOfAddress : GoodIn wsX6_look (wsV RX6 55 RX3 yX3_hopOfAddress wsX3_hopOfAddress) := goodIn_app (goodIn_of _ (by decide +kernel)) ggX6_look_X3_hopOfAddress
set_option maxRecDepth 20000 in
theorem ggX6_look_X3_deciderOf : GoodIn wsX6_look wsX3_deciderOf := goodIn_r _ [30, 31, 32, 33, 25, 34, 35, 138, 139] (by decide +kernel) (by decide +kernel)
set_option maxRecDepth 20000 in
theorem gX6_look_X3_deciderOf : GoodIn wsX6_look (wsV RX6 61 RX3 yX3_deciderOf wsX3_deciderOf) := goodIn_app (goodIn_of _ (by decide +kernel)) ggX6_look_X3_deciderOf
set_option maxRecDepth 20000 in
theorem ggX6_look_X6_installed : GoodIn wsX6_look wsX6_installed := goodIn_r _ [40, 9, 10, 11, 12, 13, 14, 15, 41, 42, 43, 19, 44, 45, 125, 126, 127, 128, 129, 130, 131, 132, 133, 134, 135, 136, 137] (by decide +kernel) (by decide +kernel)
set_option maxRecDepth 20000 in
theorem gX6_look_X6_installed : GoodIn wsX6_look (wsV RX6 64 RX6 yX6_installed wsX6_installed) := goodIn_app (goodIn_of _ (by decide +kernel)) ggX6_look_X6_installed
set_option maxRecDepth 20000 in
theorem ggX6_look_X6_freshView : GoodIn wsX6_look wsX6_freshView := goodIn_r _ [49, 50, 51, 5, 6, 7, 3, 8, 9, 10, 11, 12, 13, 14, 15, 16, 17, 18, 19, 20, 21, 37, 38, 39, 40, 41, 42, 43, 44, 45, 52, 53, 54, 55, 56, 57, 58, 59, 60, 61, 62, 25, 63, 35, 64, 65, 66, 67, 68, 69, 70, 71, 72, 73, 74, 75, 76, 32, 33, 34, 77, 78, 79, 80, 81, 82, 83, 84, 85, 86, 87, 88, 89, 90, 91, 92, 93, 94, 95, 96, 97, 98, 99, 100, 101, 102, 103, 104, 105, 106, 107, 108, 109, 110, 111, 112, 113, 114, 31, 115, 116, 117, 118, 119, 120, 125, 126, 127, 128, 129, 130, 131, 132, 133, 134, 135, 136, 137, 140, 141, 142, 143, 144, 145, 146, 138, 139] (by decide +kernel) (by decide +kernel)
set_option maxRecDepth 20000 in
theorem gX6_look_X6_freshView : GoodIn wsX6_look (wsV RX6 67 RX6 yX6_freshView wsX6_freshView) := goodIn_app (goodIn_of _ (by decide +kernel)) ggX6_look_X6_freshView
set_option maxRecDepth 20000 in
theorem ggX6_look_X5_leastTable : GoodIn wsX6_look wsX5_leastTable := goodIn_r _ [124, 87, 140, 141, 142, 143, 144, 145, 146] (by decide +kernel) (by decide +kernel)
set_option maxRecDepth 20000 in
theorem gX6_look_X5_leastTable : GoodIn wsX6_look (wsV RX6 71 RX5 yX5_leastTable wsX5_leastTable) := goodIn_app (goodIn_of _ (by decide +kernel)) ggX6_look_X5_leastTable
theorem dX6_look_0 : decode cX6_look 0 = .ok (.iload_n 1, 1) := by decide +kernel
theorem dX6_look_1 : decode cX6_look 1 = .ok (.invokestatic 47, 3) := by decide +kernel
theorem dX6_look_4 : decode cX6_look 4 = .ok (.ifCond .ne 5, 3) := by decide +kernel
theorem dX6_look_7 : decode cX6_look 7 = .ok (.iconst (-1), 1) := by decide +kernel
theorem dX6_look_8 : decode cX6_look 8 = .ok (.ireturn, 1) := by decide +kernel
theorem dX6_look_9 : decode cX6_look 9 = .ok (.iload_n 2, 1) := by decide +kernel
theorem dX6_look_10 : decode cX6_look 10 = .ok (.tableswitch 69 0 3 #[30, 39, 48, 57], 30) := by decide +kernel
theorem dX6_look_40 : decode cX6_look 40 = .ok (.aload_n 0, 1) := by decide +kernel
theorem dX6_look_41 : decode cX6_look 41 = .ok (.invokevirtual 51, 3) := by decide +kernel
theorem dX6_look_44 : decode cX6_look 44 = .ok (.iload_n 1, 1) := by decide +kernel
theorem dX6_look_45 : decode cX6_look 45 = .ok (.invokevirtual 55, 3) := by decide +kernel
theorem dX6_look_48 : decode cX6_look 48 = .ok (.ireturn, 1) := by decide +kernel
theorem dX6_look_49 : decode cX6_look 49 = .ok (.aload_n 0, 1) := by decide +kernel
theorem dX6_look_50 : decode cX6_look 50 = .ok (.invokevirtual 51, 3) := by decide +kernel
theorem dX6_look_53 : decode cX6_look 53 = .ok (.iload_n 1, 1) := by decide +kernel
theorem dX6_look_54 : decode cX6_look 54 = .ok (.invokevirtual 61, 3) := by decide +kernel
theorem dX6_look_57 : decode cX6_look 57 = .ok (.ireturn, 1) := by decide +kernel
theorem dX6_look_58 : decode cX6_look 58 = .ok (.aload_n 0, 1) := by decide +kernel
theorem dX6_look_59 : decode cX6_look 59 = .ok (.invokevirtual 64, 3) := by decide +kernel
theorem dX6_look_62 : decode cX6_look 62 = .ok (.iload_n 1, 1) := by decide +kernel
theorem dX6_look_63 : decode cX6_look 63 = .ok (.invokevirtual 55, 3) := by decide +kernel
theorem dX6_look_66 : decode cX6_look 66 = .ok (.ireturn, 1) := by decide +kernel
theorem dX6_look_67 : decode cX6_look 67 = .ok (.aload_n 0, 1) := by decide +kernel
theorem dX6_look_68 : decode cX6_look 68 = .ok (.invokevirtual 67, 3) := by decide +kernel
theorem dX6_look_71 : decode cX6_look 71 = .ok (.invokevirtual 71, 3) := by decide +kernel
theorem dX6_look_74 : decode cX6_look 74 = .ok (.iload_n 1, 1) := by decide +kernel
theorem dX6_look_75 : decode cX6_look 75 = .ok (.invokevirtual 55, 3) := by decide +kernel
theorem dX6_look_78 : decode cX6_look 78 = .ok (.ireturn, 1) := by decide +kernel
theorem dX6_look_79 : decode cX6_look 79 = .ok (.iconst (-1), 1) := by decide +kernel
theorem dX6_look_80 : decode cX6_look 80 = .ok (.ireturn, 1) := by decide +kernel
set_option maxRecDepth 20000 in
theorem ggX6_prefix_X6_isPrefix : GoodIn wsX6_prefix wsX6_isPrefix := goodIn_r _ [4] (by decide +kernel) (by decide +kernel)
set_option maxRecDepth 20000 in
theorem gX6_prefix_X6_isPrefix : GoodIn wsX6_prefix (va_wsS RX6 74 yX6_isPrefix wsX6_isPrefix) := goodIn_app (goodIn_of _ (by decide +kernel)) ggX6_prefix_X6_isPrefix
set_option maxRecDepth 20000 in
theorem ggX6_prefix_X6_table : GoodIn wsX6_prefix wsX6_table := goodIn_r _ [8, 9, 10, 11, 12, 13, 14, 15, 16, 17, 18, 19, 20, 21, 153, 154, 155, 156, 157, 158, 159, 160, 161, 162, 163, 164, 165] (by decide +kernel) (by decide +kernel)
set_option maxRecDepth 20000 in
theorem gX6_prefix_X6_table : GoodIn wsX6_prefix (wsV RX6 51 RX6 yX6_table wsX6_table) := goodIn_app (goodIn_of _ (by decide +kernel)) ggX6_prefix_X6_table
set_option maxRecDepth 20000 in
theorem ggX6_prefix_X3_hopAt : GoodIn wsX6_prefix wsX3_hopAt := goodIn_r _ [26, 27, 166, 167] (by decide +kernel) (by decide +kernel)
set_option maxRecDepth 20000 in
theorem gX6_prefix_X3_hopAt : GoodIn wsX6_prefix (wsV RX6 77 RX3 yX3_hopAt wsX3_hopAt) := goodIn_app (goodIn_of _ (by decide +kernel)) ggX6_prefix_X3_hopAt
set_option maxRecDepth 20000 in
theorem ggX6_prefix_X6_installed : GoodIn wsX6_prefix wsX6_installed := goodIn_r _ [31, 9, 10, 11, 12, 13, 14, 15, 32, 33, 34, 19, 35, 36, 153, 154, 155, 156, 157, 158, 159, 160, 161, 162, 163, 164, 165] (by decide +kernel) (by decide +kernel)
set_option maxRecDepth 20000 in
theorem gX6_prefix_X6_installed : GoodIn wsX6_prefix (wsV RX6 64 RX6 yX6_installed wsX6_installed) := goodIn_app (goodIn_of _ (by decide +kernel)) ggX6_prefix_X6_installed
set_option maxRecDepth 20000 in
theorem ggX6_prefix_X6_freshView : GoodIn wsX6_prefix wsX6_freshView := goodIn_r _ [40, 41, 42, 5, 6, 7, 3, 8, 9, 10, 11, 12, 13, 14, 15, 16, 17, 18, 19, 20, 21, 28, 29, 30, 31, 32, 33, 34, 35, 36, 43, 44, 45, 46, 47, 48, 49, 50, 51, 52, 53, 25, 54, 27, 55, 56, 57, 58, 59, 60, 61, 62, 63, 64, 65, 66, 67, 23, 24, 26, 68, 69, 70, 71, 72, 73, 74, 75, 76, 77, 78, 79, 80, 81, 82, 83, 84, 85, 86, 87, 88, 89, 90, 91, 92, 93, 94, 95, 96, 97, 98, 99, 100, 101, 2, 4, 102, 103, 104, 105, 106, 107, 108, 109, 110, 153, 154, 155, 156, 157, 158, 159, 160, 161, 162, 163, 164, 165, 168, 169, 170, 171, 172, 173, 174, 166, 167] (by decide +kernel) (by decide +kernel)
set_option maxRecDepth 20000 in
theorem gX6_prefix_X6_freshView : GoodIn wsX6_prefix (wsV RX6 67 RX6 yX6_freshView wsX6_freshView) := goodIn_app (goodIn_of _ (by decide +kernel)) ggX6_prefix_X6_freshView
set_option maxRecDepth 20000 in
theorem ggX6_prefix_X5_leastTable : GoodIn wsX6_prefix wsX5_leastTable := goodIn_r _ [114, 78, 168, 169, 170, 171, 172, 173, 174] (by decide +kernel) (by decide +kernel)
set_option maxRecDepth 20000 in
theorem gX6_prefix_X5_leastTable : GoodIn wsX6_prefix (wsV RX6 71 RX5 yX5_leastTable wsX5_leastTable) := goodIn_app (goodIn_of _ (by decide +kernel)) ggX6_prefix_X5_leastTable
set_option maxRecDepth 20000 in
theorem ggX6_prefix_X5_bestHops : GoodIn wsX6_prefix wsX5_bestHops := goodIn_r _ [118, 72, 2, 3, 4, 168, 169, 170, 171, 172, 173, 174] (by decide +kernel) (by decide +kernel)
set_option maxRecDepth 20000 in
theorem gX6_prefix_X5_bestHops : GoodIn wsX6_prefix (wsV RX6 80 RX5 yX5_bestHops wsX5_bestHops) := goodIn_app (goodIn_of _ (by decide +kernel)) ggX6_prefix_X5_bestHops
set_option maxRecDepth 20000 in
theorem ggX6_prefix_X5_easeOf : GoodIn wsX6_prefix wsX5_easeOf := goodIn_r _ [122, 73, 2, 3, 4, 168, 169, 170, 171, 172, 173, 174] (by decide +kernel) (by decide +kernel)
set_option maxRecDepth 20000 in
theorem gX6_prefix_X5_easeOf : GoodIn wsX6_prefix (wsV RX6 83 RX5 yX5_easeOf wsX5_easeOf) := goodIn_app (goodIn_of _ (by decide +kernel)) ggX6_prefix_X5_easeOf
set_option maxRecDepth 20000 in
theorem ggX6_prefix_X5_hopsBeneath : GoodIn wsX6_prefix wsX5_hopsBeneath := goodIn_r _ [126, 49, 2, 3, 4, 168, 169, 170, 171, 172, 173, 174] (by decide +kernel) (by decide +kernel)
set_option maxRecDepth 20000 in
theorem gX6_prefix_X5_hopsBeneath : GoodIn wsX6_prefix (wsV RX6 86 RX5 yX5_hopsBeneath wsX5_hopsBeneath) := goodIn_app (goodIn_of _ (by decide +kernel)) ggX6_prefix_X5_hopsBeneath
set_option maxRecDepth 20000 in
theorem ggX6_prefix_X3_redundancyOf : GoodIn wsX6_prefix wsX3_redundancyOf := goodIn_r _ [130, 104, 23, 24, 25, 26, 27, 131, 132, 133, 134, 135, 136, 137, 138, 139, 3, 140, 141, 142, 143, 144, 145, 95, 146, 97, 147, 148, 149, 150, 151, 152, 166, 167] (by decide +kernel) (by decide +kernel)
set_option maxRecDepth 20000 in
theorem gX6_prefix_X3_redundancyOf : GoodIn wsX6_prefix (wsV RX6 89 RX3 yX3_redundancyOf wsX3_redundancyOf) := goodIn_app (goodIn_of _ (by decide +kernel)) ggX6_prefix_X3_redundancyOf
theorem dX6_prefix_0 : decode cX6_prefix 0 = .ok (.iload_n 1, 1) := by decide +kernel
theorem dX6_prefix_1 : decode cX6_prefix 1 = .ok (.invokestatic 74, 3) := by decide +kernel
theorem dX6_prefix_4 : decode cX6_prefix 4 = .ok (.ifCond .ne 5, 3) := by decide +kernel
theorem dX6_prefix_7 : decode cX6_prefix 7 = .ok (.iconst (-1), 1) := by decide +kernel
theorem dX6_prefix_8 : decode cX6_prefix 8 = .ok (.ireturn, 1) := by decide +kernel
theorem dX6_prefix_9 : decode cX6_prefix 9 = .ok (.iload_n 2, 1) := by decide +kernel
theorem dX6_prefix_10 : decode cX6_prefix 10 = .ok (.tableswitch 108 0 6 #[42, 51, 60, 72, 81, 90, 99], 42) := by decide +kernel
theorem dX6_prefix_52 : decode cX6_prefix 52 = .ok (.aload_n 0, 1) := by decide +kernel
theorem dX6_prefix_53 : decode cX6_prefix 53 = .ok (.invokevirtual 51, 3) := by decide +kernel
theorem dX6_prefix_56 : decode cX6_prefix 56 = .ok (.iload_n 1, 1) := by decide +kernel
theorem dX6_prefix_57 : decode cX6_prefix 57 = .ok (.invokevirtual 77, 3) := by decide +kernel
theorem dX6_prefix_60 : decode cX6_prefix 60 = .ok (.ireturn, 1) := by decide +kernel
theorem dX6_prefix_61 : decode cX6_prefix 61 = .ok (.aload_n 0, 1) := by decide +kernel
theorem dX6_prefix_62 : decode cX6_prefix 62 = .ok (.invokevirtual 64, 3) := by decide +kernel
theorem dX6_prefix_65 : decode cX6_prefix 65 = .ok (.iload_n 1, 1) := by decide +kernel
theorem dX6_prefix_66 : decode cX6_prefix 66 = .ok (.invokevirtual 77, 3) := by decide +kernel
theorem dX6_prefix_69 : decode cX6_prefix 69 = .ok (.ireturn, 1) := by decide +kernel
theorem dX6_prefix_70 : decode cX6_prefix 70 = .ok (.aload_n 0, 1) := by decide +kernel
theorem dX6_prefix_71 : decode cX6_prefix 71 = .ok (.invokevirtual 67, 3) := by decide +kernel
theorem dX6_prefix_74 : decode cX6_prefix 74 = .ok (.invokevirtual 71, 3) := by decide +kernel
theorem dX6_prefix_77 : decode cX6_prefix 77 = .ok (.iload_n 1, 1) := by decide +kernel
theorem dX6_prefix_78 : decode cX6_prefix 78 = .ok (.invokevirtual 77, 3) := by decide +kernel
theorem dX6_prefix_81 : decode cX6_prefix 81 = .ok (.ireturn, 1) := by decide +kernel
theorem dX6_prefix_82 : decode cX6_prefix 82 = .ok (.aload_n 0, 1) := by decide +kernel
theorem dX6_prefix_83 : decode cX6_prefix 83 = .ok (.invokevirtual 67, 3) := by decide +kernel
theorem dX6_prefix_86 : decode cX6_prefix 86 = .ok (.iload_n 1, 1) := by decide +kernel
theorem dX6_prefix_87 : decode cX6_prefix 87 = .ok (.invokevirtual 80, 3) := by decide +kernel
theorem dX6_prefix_90 : decode cX6_prefix 90 = .ok (.ireturn, 1) := by decide +kernel
theorem dX6_prefix_91 : decode cX6_prefix 91 = .ok (.aload_n 0, 1) := by decide +kernel
theorem dX6_prefix_92 : decode cX6_prefix 92 = .ok (.invokevirtual 67, 3) := by decide +kernel
theorem dX6_prefix_95 : decode cX6_prefix 95 = .ok (.iload_n 1, 1) := by decide +kernel
theorem dX6_prefix_96 : decode cX6_prefix 96 = .ok (.invokevirtual 83, 3) := by decide +kernel
theorem dX6_prefix_99 : decode cX6_prefix 99 = .ok (.ireturn, 1) := by decide +kernel
theorem dX6_prefix_100 : decode cX6_prefix 100 = .ok (.aload_n 0, 1) := by decide +kernel
theorem dX6_prefix_101 : decode cX6_prefix 101 = .ok (.invokevirtual 67, 3) := by decide +kernel
theorem dX6_prefix_104 : decode cX6_prefix 104 = .ok (.iload_n 1, 1) := by decide +kernel
theorem dX6_prefix_105 : decode cX6_prefix 105 = .ok (.invokevirtual 86, 3) := by decide +kernel
theorem dX6_prefix_108 : decode cX6_prefix 108 = .ok (.ireturn, 1) := by decide +kernel
theorem dX6_prefix_109 : decode cX6_prefix 109 = .ok (.aload_n 0, 1) := by decide +kernel
theorem dX6_prefix_110 : decode cX6_prefix 110 = .ok (.invokevirtual 51, 3) := by decide +kernel
theorem dX6_prefix_113 : decode cX6_prefix 113 = .ok (.iload_n 1, 1) := by decide +kernel
theorem dX6_prefix_114 : decode cX6_prefix 114 = .ok (.invokevirtual 89, 3) := by decide +kernel
theorem dX6_prefix_117 : decode cX6_prefix 117 = .ok (.ireturn, 1) := by decide +kernel
theorem dX6_prefix_118 : decode cX6_prefix 118 = .ok (.iconst (-1), 1) := by decide +kernel
theorem dX6_prefix_119 : decode cX6_prefix 119 = .ok (.ireturn, 1) := by decide +kernel
set_option maxRecDepth 20000 in
theorem ggX6_cost_X6_isPrefix : GoodIn wsX6_cost wsX6_isPrefix := goodIn_r _ [4] (by decide +kernel) (by decide +kernel)
set_option maxRecDepth 20000 in
theorem gX6_cost_X6_isPrefix : GoodIn wsX6_cost (va_wsS RX6 74 yX6_isPrefix wsX6_isPrefix) := goodIn_app (goodIn_of _ (by decide +kernel)) ggX6_cost_X6_isPrefix
set_option maxRecDepth 20000 in
theorem ggX6_cost_X6_isHop : GoodIn wsX6_cost wsX6_isHop := goodIn_r _ [7] (by decide +kernel) (by decide +kernel)
set_option maxRecDepth 20000 in
theorem gX6_cost_X6_isHop : GoodIn wsX6_cost (va_wsS RX6 92 yX6_isHop wsX6_isHop) := goodIn_app (goodIn_of _ (by decide +kernel)) ggX6_cost_X6_isHop
set_option maxRecDepth 20000 in
theorem ggX6_cost_X6_freshView : GoodIn wsX6_cost wsX6_freshView := goodIn_r _ [11, 12, 13, 14, 15, 16, 3, 17, 18, 19, 20, 21, 22, 23, 24, 25, 26, 27, 28, 29, 30, 31, 32, 33, 34, 35, 36, 37, 38, 39, 40, 41, 42, 43, 44, 45, 46, 47, 48, 49, 50, 51, 52, 53, 54, 55, 56, 57, 58, 59, 60, 61, 62, 63, 64, 65, 66, 67, 68, 69, 70, 71, 72, 73, 74, 75, 76, 77, 78, 79, 80, 81, 82, 83, 84, 85, 86, 87, 88, 89, 90, 91, 92, 93, 94, 95, 96, 97, 98, 99, 100, 101, 102, 103, 2, 4, 6, 7, 104, 105, 106, 107, 108, 109, 110, 123, 124, 125, 126, 127, 128, 129, 130, 131, 132, 133, 134, 135, 136, 137, 138, 139, 140, 141, 142, 143, 144] (by decide +kernel) (by decide +kernel)
set_option maxRecDepth 20000 in
theorem gX6_cost_X6_freshView : GoodIn wsX6_cost (wsV RX6 67 RX6 yX6_freshView wsX6_freshView) := goodIn_app (goodIn_of _ (by decide +kernel)) ggX6_cost_X6_freshView
set_option maxRecDepth 20000 in
theorem ggX6_cost_X5_costBy : GoodIn wsX6_cost wsX5_costBy := goodIn_r _ [114, 115, 116, 117, 43, 118, 75, 2, 3, 4, 119, 120, 121, 122, 74, 90, 91, 92, 136, 137, 138, 139, 140, 141, 142] (by decide +kernel) (by decide +kernel)
set_option maxRecDepth 20000 in
theorem gX6_cost_X5_costBy : GoodIn wsX6_cost (wsV RX6 95 RX5 yX5_costBy wsX5_costBy) := goodIn_app (goodIn_of _ (by decide +kernel)) ggX6_cost_X5_costBy
theorem dX6_cost_0 : decode cX6_cost 0 = .ok (.iload_n 1, 1) := by decide +kernel
theorem dX6_cost_1 : decode cX6_cost 1 = .ok (.invokestatic 74, 3) := by decide +kernel
theorem dX6_cost_4 : decode cX6_cost 4 = .ok (.ifCond .eq 10, 3) := by decide +kernel
theorem dX6_cost_7 : decode cX6_cost 7 = .ok (.iload_n 2, 1) := by decide +kernel
theorem dX6_cost_8 : decode cX6_cost 8 = .ok (.invokestatic 92, 3) := by decide +kernel
theorem dX6_cost_11 : decode cX6_cost 11 = .ok (.ifCond .ne 5, 3) := by decide +kernel
theorem dX6_cost_14 : decode cX6_cost 14 = .ok (.iconst (-1), 1) := by decide +kernel
theorem dX6_cost_15 : decode cX6_cost 15 = .ok (.ireturn, 1) := by decide +kernel
theorem dX6_cost_16 : decode cX6_cost 16 = .ok (.aload_n 0, 1) := by decide +kernel
theorem dX6_cost_17 : decode cX6_cost 17 = .ok (.invokevirtual 67, 3) := by decide +kernel
theorem dX6_cost_20 : decode cX6_cost 20 = .ok (.iload_n 1, 1) := by decide +kernel
theorem dX6_cost_21 : decode cX6_cost 21 = .ok (.iload_n 2, 1) := by decide +kernel
theorem dX6_cost_22 : decode cX6_cost 22 = .ok (.invokevirtual 95, 3) := by decide +kernel
theorem dX6_cost_25 : decode cX6_cost 25 = .ok (.ireturn, 1) := by decide +kernel
set_option maxRecDepth 20000 in
theorem ggX6_least_X6_freshView : GoodIn wsX6_least wsX6_freshView := goodIn_r _ [5, 6, 7, 8, 9, 10, 4, 11, 12, 13, 14, 15, 16, 17, 18, 19, 20, 21, 22, 23, 24, 25, 26, 27, 28, 29, 30, 31, 32, 33, 34, 35, 36, 37, 38, 39, 40, 41, 42, 43, 44, 45, 46, 47, 48, 49, 50, 51, 52, 53, 54, 55, 56, 57, 58, 59, 60, 61, 62, 63, 64, 65, 66, 67, 68, 69, 70, 71, 72, 73, 74, 75, 76, 77, 78, 79, 80, 81, 82, 83, 84, 85, 86, 87, 88, 89, 90, 91, 92, 93, 94, 95, 96, 97, 98, 99, 100, 101, 102, 103, 104, 105, 106, 107, 108, 118, 119, 120, 121, 122, 123, 124, 125, 126, 127, 128, 129, 130, 131, 132, 133, 134, 135, 136, 137, 138, 139] (by decide +kernel) (by decide +kernel)
set_option maxRecDepth 20000 in
theorem gX6_least_X6_freshView : GoodIn wsX6_least (wsV RX6 67 RX6 yX6_freshView wsX6_freshView) := goodIn_app (goodIn_of _ (by decide +kernel)) ggX6_least_X6_freshView
set_option maxRecDepth 20000 in
theorem ggX6_least_X5_leastTable : GoodIn wsX6_least wsX5_leastTable := goodIn_r _ [112, 74, 131, 132, 133, 134, 135, 136, 137] (by decide +kernel) (by decide +kernel)
set_option maxRecDepth 20000 in
theorem gX6_least_X5_leastTable : GoodIn wsX6_least (wsV RX6 71 RX5 yX5_leastTable wsX5_leastTable) := goodIn_app (goodIn_of _ (by decide +kernel)) ggX6_least_X5_leastTable
set_option maxRecDepth 20000 in
theorem ggX6_least_X3_numberOf : GoodIn wsX6_least wsX3_numberOf := goodIn_r _ [116, 102, 61, 62, 45, 63, 47, 138, 139] (by decide +kernel) (by decide +kernel)
set_option maxRecDepth 20000 in
theorem gX6_least_X3_numberOf : GoodIn wsX6_least (wsV RX6 99 RX3 yX3_numberOf wsX3_numberOf) := goodIn_app (goodIn_of _ (by decide +kernel)) ggX6_least_X3_numberOf
set_option maxRecDepth 20000 in
theorem ggX6_least_X3_hopAt : GoodIn wsX6_least wsX3_hopAt := goodIn_r _ [63, 47, 138, 139] (by decide +kernel) (by decide +kernel)
set_option maxRecDepth 20000 in
theorem gX6_least_X3_hopAt : GoodIn wsX6_least (wsV RX6 77 RX3 yX3_hopAt wsX3_hopAt) := goodIn_app (goodIn_of _ (by decide +kernel)) ggX6_least_X3_hopAt
theorem dX6_least_0 : decode cX6_least 0 = .ok (.iload_n 1, 1) := by decide +kernel
