theorem dX0_init_29 : decode cX0_init 29 = .ok (.dup, 1) := by decide +kernel
theorem dX0_init_30 : decode cX0_init 30 = .ok (.invokespecial 15, 3) := by decide +kernel
theorem dX0_init_33 : decode cX0_init 33 = .ok (.aastore, 1) := by decide +kernel
theorem dX0_init_34 : decode cX0_init 34 = .ok (.iinc 1 1, 3) := by decide +kernel
theorem dX0_init_37 : decode cX0_init 37 = .ok (.goto (-22), 3) := by decide +kernel
theorem dX0_init_40 : decode cX0_init 40 = .ok (.return_, 1) := by decide +kernel
theorem dX0_undoable_0 : decode cX0_undoable 0 = .ok (.aload_n 0, 1) := by decide +kernel
theorem dX0_undoable_1 : decode cX0_undoable 1 = .ok (.getfield 16, 3) := by decide +kernel
theorem dX0_undoable_4 : decode cX0_undoable 4 = .ok (.ireturn, 1) := by decide +kernel
theorem dX0_repeatable_0 : decode cX0_repeatable 0 = .ok (.aload_n 0, 1) := by decide +kernel
theorem dX0_repeatable_1 : decode cX0_repeatable 1 = .ok (.getfield 20, 3) := by decide +kernel
theorem dX0_repeatable_4 : decode cX0_repeatable 4 = .ok (.aload_n 0, 1) := by decide +kernel
theorem dX0_repeatable_5 : decode cX0_repeatable 5 = .ok (.getfield 16, 3) := by decide +kernel
theorem dX0_repeatable_8 : decode cX0_repeatable 8 = .ok (.isub, 1) := by decide +kernel
theorem dX0_repeatable_9 : decode cX0_repeatable 9 = .ok (.ireturn, 1) := by decide +kernel
theorem dX0_present_0 : decode cX0_present 0 = .ok (.aload_n 0, 1) := by decide +kernel
theorem dX0_present_1 : decode cX0_present 1 = .ok (.getfield 16, 3) := by decide +kernel
theorem dX0_present_4 : decode cX0_present 4 = .ok (.ifCond .lt 24, 3) := by decide +kernel
theorem dX0_present_7 : decode cX0_present 7 = .ok (.aload_n 0, 1) := by decide +kernel
theorem dX0_present_8 : decode cX0_present 8 = .ok (.getfield 16, 3) := by decide +kernel
theorem dX0_present_11 : decode cX0_present 11 = .ok (.bipush 8, 2) := by decide +kernel
theorem dX0_present_13 : decode cX0_present 13 = .ok (.if_icmp .gt 15, 3) := by decide +kernel
theorem dX0_present_16 : decode cX0_present 16 = .ok (.aload_n 0, 1) := by decide +kernel
theorem dX0_present_17 : decode cX0_present 17 = .ok (.getfield 11, 3) := by decide +kernel
theorem dX0_present_20 : decode cX0_present 20 = .ok (.aload_n 0, 1) := by decide +kernel
theorem dX0_present_21 : decode cX0_present 21 = .ok (.getfield 16, 3) := by decide +kernel
theorem dX0_present_24 : decode cX0_present 24 = .ok (.aaload, 1) := by decide +kernel
theorem dX0_present_25 : decode cX0_present 25 = .ok (.goto 9, 3) := by decide +kernel
theorem dX0_present_28 : decode cX0_present 28 = .ok (.aload_n 0, 1) := by decide +kernel
theorem dX0_present_29 : decode cX0_present 29 = .ok (.getfield 11, 3) := by decide +kernel
theorem dX0_present_32 : decode cX0_present 32 = .ok (.iconst 0, 1) := by decide +kernel
theorem dX0_present_33 : decode cX0_present 33 = .ok (.aaload, 1) := by decide +kernel
theorem dX0_present_34 : decode cX0_present 34 = .ok (.areturn, 1) := by decide +kernel
set_option maxRecDepth 20000 in
theorem ggX0_settle_X0_present : GoodIn wsX0_settle wsX0_present := goodIn_r _ [7, 1, 8, 35, 36, 37] (by decide +kernel) (by decide +kernel)
set_option maxRecDepth 20000 in
theorem gX0_settle_X0_present : GoodIn wsX0_settle (wsV RX0 23 RX0 yX0_present wsX0_present) := goodIn_app (goodIn_of _ (by decide +kernel)) ggX0_settle_X0_present
set_option maxRecDepth 20000 in
theorem ggX0_settle_X1_isLike : GoodIn wsX0_settle wsX1_isLike := goodIn_r _ [13, 14, 15, 16, 17, 18, 19, 20, 12, 21, 22, 23, 24, 25, 26, 38, 39, 40, 41, 42] (by decide +kernel) (by decide +kernel)
set_option maxRecDepth 20000 in
theorem gX0_settle_X1_isLike : GoodIn wsX0_settle (wsV RX0 27 RX1 yX1_isLike wsX1_isLike) := goodIn_app (goodIn_of _ (by decide +kernel)) ggX0_settle_X1_isLike
set_option maxRecDepth 20000 in
theorem ggX0_settle_X0_dropOldest : GoodIn wsX0_settle wsX0_dropOldest := goodIn_r _ [30, 8, 1, 35, 36, 37] (by decide +kernel) (by decide +kernel)
set_option maxRecDepth 20000 in
theorem gX0_settle_X0_dropOldest : GoodIn wsX0_settle (wsV RX0 31 RX0 yX0_dropOldest wsX0_dropOldest) := goodIn_app (goodIn_of _ (by decide +kernel)) ggX0_settle_X0_dropOldest
set_option maxRecDepth 20000 in
theorem ggX0_settle_X1_copyFrom : GoodIn wsX0_settle wsX1_copyFrom := goodIn_r _ [34, 14, 17, 26, 15, 16, 38, 39, 40, 41, 42] (by decide +kernel) (by decide +kernel)
set_option maxRecDepth 20000 in
theorem gX0_settle_X1_copyFrom : GoodIn wsX0_settle (wsV RX0 34 RX1 yX1_copyFrom wsX1_copyFrom) := goodIn_app (goodIn_of _ (by decide +kernel)) ggX0_settle_X1_copyFrom
theorem dX0_settle_0 : decode cX0_settle 0 = .ok (.aload_n 1, 1) := by decide +kernel
theorem dX0_settle_1 : decode cX0_settle 1 = .ok (.aload_n 0, 1) := by decide +kernel
theorem dX0_settle_2 : decode cX0_settle 2 = .ok (.invokevirtual 23, 3) := by decide +kernel
theorem dX0_settle_5 : decode cX0_settle 5 = .ok (.invokevirtual 27, 3) := by decide +kernel
theorem dX0_settle_8 : decode cX0_settle 8 = .ok (.ifCond .eq 4, 3) := by decide +kernel
theorem dX0_settle_11 : decode cX0_settle 11 = .ok (.return_, 1) := by decide +kernel
theorem dX0_settle_12 : decode cX0_settle 12 = .ok (.aload_n 0, 1) := by decide +kernel
theorem dX0_settle_13 : decode cX0_settle 13 = .ok (.getfield 16, 3) := by decide +kernel
theorem dX0_settle_16 : decode cX0_settle 16 = .ok (.bipush 8, 2) := by decide +kernel
theorem dX0_settle_18 : decode cX0_settle 18 = .ok (.if_icmp .lt 7, 3) := by decide +kernel
theorem dX0_settle_21 : decode cX0_settle 21 = .ok (.aload_n 0, 1) := by decide +kernel
theorem dX0_settle_22 : decode cX0_settle 22 = .ok (.invokevirtual 31, 3) := by decide +kernel
theorem dX0_settle_25 : decode cX0_settle 25 = .ok (.aload_n 0, 1) := by decide +kernel
theorem dX0_settle_26 : decode cX0_settle 26 = .ok (.dup, 1) := by decide +kernel
theorem dX0_settle_27 : decode cX0_settle 27 = .ok (.getfield 16, 3) := by decide +kernel
theorem dX0_settle_30 : decode cX0_settle 30 = .ok (.iconst 1, 1) := by decide +kernel
theorem dX0_settle_31 : decode cX0_settle 31 = .ok (.iadd, 1) := by decide +kernel
theorem dX0_settle_32 : decode cX0_settle 32 = .ok (.putfield 16, 3) := by decide +kernel
theorem dX0_settle_35 : decode cX0_settle 35 = .ok (.aload_n 0, 1) := by decide +kernel
theorem dX0_settle_36 : decode cX0_settle 36 = .ok (.aload_n 0, 1) := by decide +kernel
theorem dX0_settle_37 : decode cX0_settle 37 = .ok (.getfield 16, 3) := by decide +kernel
theorem dX0_settle_40 : decode cX0_settle 40 = .ok (.putfield 20, 3) := by decide +kernel
theorem dX0_settle_43 : decode cX0_settle 43 = .ok (.aload_n 0, 1) := by decide +kernel
theorem dX0_settle_44 : decode cX0_settle 44 = .ok (.invokevirtual 23, 3) := by decide +kernel
theorem dX0_settle_47 : decode cX0_settle 47 = .ok (.aload_n 1, 1) := by decide +kernel
theorem dX0_settle_48 : decode cX0_settle 48 = .ok (.invokevirtual 34, 3) := by decide +kernel
theorem dX0_settle_51 : decode cX0_settle 51 = .ok (.return_, 1) := by decide +kernel
set_option maxRecDepth 20000 in
theorem ggX0_stepBack_X0_present : GoodIn wsX0_stepBack wsX0_present := goodIn_r _ [6, 1, 7, 18, 19, 20] (by decide +kernel) (by decide +kernel)
set_option maxRecDepth 20000 in
theorem gX0_stepBack_X0_present : GoodIn wsX0_stepBack (wsV RX0 23 RX0 yX0_present wsX0_present) := goodIn_app (goodIn_of _ (by decide +kernel)) ggX0_stepBack_X0_present
set_option maxRecDepth 20000 in
theorem ggX0_stepBack_X1_copyFrom : GoodIn wsX0_stepBack wsX1_copyFrom := goodIn_r _ [12, 13, 14, 15, 16, 17, 21, 22, 23, 24, 25] (by decide +kernel) (by decide +kernel)
set_option maxRecDepth 20000 in
theorem gX0_stepBack_X1_copyFrom : GoodIn wsX0_stepBack (wsV RX0 34 RX1 yX1_copyFrom wsX1_copyFrom) := goodIn_app (goodIn_of _ (by decide +kernel)) ggX0_stepBack_X1_copyFrom
theorem dX0_stepBack_0 : decode cX0_stepBack 0 = .ok (.aload_n 0, 1) := by decide +kernel
theorem dX0_stepBack_1 : decode cX0_stepBack 1 = .ok (.getfield 16, 3) := by decide +kernel
theorem dX0_stepBack_4 : decode cX0_stepBack 4 = .ok (.ifCond .le 13, 3) := by decide +kernel
theorem dX0_stepBack_7 : decode cX0_stepBack 7 = .ok (.aload_n 0, 1) := by decide +kernel
theorem dX0_stepBack_8 : decode cX0_stepBack 8 = .ok (.dup, 1) := by decide +kernel
theorem dX0_stepBack_9 : decode cX0_stepBack 9 = .ok (.getfield 16, 3) := by decide +kernel
theorem dX0_stepBack_12 : decode cX0_stepBack 12 = .ok (.iconst 1, 1) := by decide +kernel
theorem dX0_stepBack_13 : decode cX0_stepBack 13 = .ok (.isub, 1) := by decide +kernel
theorem dX0_stepBack_14 : decode cX0_stepBack 14 = .ok (.putfield 16, 3) := by decide +kernel
theorem dX0_stepBack_17 : decode cX0_stepBack 17 = .ok (.aload_n 1, 1) := by decide +kernel
theorem dX0_stepBack_18 : decode cX0_stepBack 18 = .ok (.aload_n 0, 1) := by decide +kernel
theorem dX0_stepBack_19 : decode cX0_stepBack 19 = .ok (.invokevirtual 23, 3) := by decide +kernel
theorem dX0_stepBack_22 : decode cX0_stepBack 22 = .ok (.invokevirtual 34, 3) := by decide +kernel
theorem dX0_stepBack_25 : decode cX0_stepBack 25 = .ok (.return_, 1) := by decide +kernel
set_option maxRecDepth 20000 in
theorem ggX0_stepOn_X0_present : GoodIn wsX0_stepOn wsX0_present := goodIn_r _ [7, 1, 8, 19, 20, 21] (by decide +kernel) (by decide +kernel)
set_option maxRecDepth 20000 in
theorem gX0_stepOn_X0_present : GoodIn wsX0_stepOn (wsV RX0 23 RX0 yX0_present wsX0_present) := goodIn_app (goodIn_of _ (by decide +kernel)) ggX0_stepOn_X0_present
set_option maxRecDepth 20000 in
theorem ggX0_stepOn_X1_copyFrom : GoodIn wsX0_stepOn wsX1_copyFrom := goodIn_r _ [13, 14, 15, 16, 17, 18, 22, 23, 24, 25, 26] (by decide +kernel) (by decide +kernel)
set_option maxRecDepth 20000 in
theorem gX0_stepOn_X1_copyFrom : GoodIn wsX0_stepOn (wsV RX0 34 RX1 yX1_copyFrom wsX1_copyFrom) := goodIn_app (goodIn_of _ (by decide +kernel)) ggX0_stepOn_X1_copyFrom
theorem dX0_stepOn_0 : decode cX0_stepOn 0 = .ok (.aload_n 0, 1) := by decide +kernel
theorem dX0_stepOn_1 : decode cX0_stepOn 1 = .ok (.getfield 16, 3) := by decide +kernel
theorem dX0_stepOn_4 : decode cX0_stepOn 4 = .ok (.aload_n 0, 1) := by decide +kernel
theorem dX0_stepOn_5 : decode cX0_stepOn 5 = .ok (.getfield 20, 3) := by decide +kernel
theorem dX0_stepOn_8 : decode cX0_stepOn 8 = .ok (.if_icmp .ge 13, 3) := by decide +kernel
theorem dX0_stepOn_11 : decode cX0_stepOn 11 = .ok (.aload_n 0, 1) := by decide +kernel
theorem dX0_stepOn_12 : decode cX0_stepOn 12 = .ok (.dup, 1) := by decide +kernel
theorem dX0_stepOn_13 : decode cX0_stepOn 13 = .ok (.getfield 16, 3) := by decide +kernel
theorem dX0_stepOn_16 : decode cX0_stepOn 16 = .ok (.iconst 1, 1) := by decide +kernel
theorem dX0_stepOn_17 : decode cX0_stepOn 17 = .ok (.iadd, 1) := by decide +kernel
theorem dX0_stepOn_18 : decode cX0_stepOn 18 = .ok (.putfield 16, 3) := by decide +kernel
theorem dX0_stepOn_21 : decode cX0_stepOn 21 = .ok (.aload_n 1, 1) := by decide +kernel
theorem dX0_stepOn_22 : decode cX0_stepOn 22 = .ok (.aload_n 0, 1) := by decide +kernel
theorem dX0_stepOn_23 : decode cX0_stepOn 23 = .ok (.invokevirtual 23, 3) := by decide +kernel
theorem dX0_stepOn_26 : decode cX0_stepOn 26 = .ok (.invokevirtual 34, 3) := by decide +kernel
theorem dX0_stepOn_29 : decode cX0_stepOn 29 = .ok (.return_, 1) := by decide +kernel
set_option maxRecDepth 20000 in
theorem ggX0_startAnew_X1_copyFrom : GoodIn wsX0_startAnew wsX1_copyFrom := goodIn_r _ [8, 9, 10, 11, 12, 13, 17, 18, 19, 20, 21] (by decide +kernel) (by decide +kernel)
set_option maxRecDepth 20000 in
theorem gX0_startAnew_X1_copyFrom : GoodIn wsX0_startAnew (wsV RX0 34 RX1 yX1_copyFrom wsX1_copyFrom) := goodIn_app (goodIn_of _ (by decide +kernel)) ggX0_startAnew_X1_copyFrom
theorem dX0_startAnew_0 : decode cX0_startAnew 0 = .ok (.aload_n 0, 1) := by decide +kernel
theorem dX0_startAnew_1 : decode cX0_startAnew 1 = .ok (.iconst 0, 1) := by decide +kernel
theorem dX0_startAnew_2 : decode cX0_startAnew 2 = .ok (.putfield 16, 3) := by decide +kernel
theorem dX0_startAnew_5 : decode cX0_startAnew 5 = .ok (.aload_n 0, 1) := by decide +kernel
theorem dX0_startAnew_6 : decode cX0_startAnew 6 = .ok (.iconst 0, 1) := by decide +kernel
theorem dX0_startAnew_7 : decode cX0_startAnew 7 = .ok (.putfield 20, 3) := by decide +kernel
theorem dX0_startAnew_10 : decode cX0_startAnew 10 = .ok (.aload_n 0, 1) := by decide +kernel
theorem dX0_startAnew_11 : decode cX0_startAnew 11 = .ok (.getfield 11, 3) := by decide +kernel
theorem dX0_startAnew_14 : decode cX0_startAnew 14 = .ok (.iconst 0, 1) := by decide +kernel
theorem dX0_startAnew_15 : decode cX0_startAnew 15 = .ok (.aaload, 1) := by decide +kernel
theorem dX0_startAnew_16 : decode cX0_startAnew 16 = .ok (.aload_n 1, 1) := by decide +kernel
theorem dX0_startAnew_17 : decode cX0_startAnew 17 = .ok (.invokevirtual 34, 3) := by decide +kernel
theorem dX0_startAnew_20 : decode cX0_startAnew 20 = .ok (.return_, 1) := by decide +kernel
theorem dX0_dropOldest_0 : decode cX0_dropOldest 0 = .ok (.aload_n 0, 1) := by decide +kernel
theorem dX0_dropOldest_1 : decode cX0_dropOldest 1 = .ok (.getfield 11, 3) := by decide +kernel
theorem dX0_dropOldest_4 : decode cX0_dropOldest 4 = .ok (.iconst 0, 1) := by decide +kernel
theorem dX0_dropOldest_5 : decode cX0_dropOldest 5 = .ok (.aaload, 1) := by decide +kernel
theorem dX0_dropOldest_6 : decode cX0_dropOldest 6 = .ok (.astore_n 1, 1) := by decide +kernel
theorem dX0_dropOldest_7 : decode cX0_dropOldest 7 = .ok (.iconst 0, 1) := by decide +kernel
theorem dX0_dropOldest_8 : decode cX0_dropOldest 8 = .ok (.istore_n 2, 1) := by decide +kernel
theorem dX0_dropOldest_9 : decode cX0_dropOldest 9 = .ok (.iload_n 2, 1) := by decide +kernel
theorem dX0_dropOldest_10 : decode cX0_dropOldest 10 = .ok (.bipush 8, 2) := by decide +kernel
theorem dX0_dropOldest_12 : decode cX0_dropOldest 12 = .ok (.if_icmp .ge 23, 3) := by decide +kernel
theorem dX0_dropOldest_15 : decode cX0_dropOldest 15 = .ok (.aload_n 0, 1) := by decide +kernel
theorem dX0_dropOldest_16 : decode cX0_dropOldest 16 = .ok (.getfield 11, 3) := by decide +kernel
theorem dX0_dropOldest_19 : decode cX0_dropOldest 19 = .ok (.iload_n 2, 1) := by decide +kernel
theorem dX0_dropOldest_20 : decode cX0_dropOldest 20 = .ok (.aload_n 0, 1) := by decide +kernel
theorem dX0_dropOldest_21 : decode cX0_dropOldest 21 = .ok (.getfield 11, 3) := by decide +kernel
theorem dX0_dropOldest_24 : decode cX0_dropOldest 24 = .ok (.iload_n 2, 1) := by decide +kernel
theorem dX0_dropOldest_25 : decode cX0_dropOldest 25 = .ok (.iconst 1, 1) := by decide +kernel
theorem dX0_dropOldest_26 : decode cX0_dropOldest 26 = .ok (.iadd, 1) := by decide +kernel
theorem dX0_dropOldest_27 : decode cX0_dropOldest 27 = .ok (.aaload, 1) := by decide +kernel
theorem dX0_dropOldest_28 : decode cX0_dropOldest 28 = .ok (.aastore, 1) := by decide +kernel
theorem dX0_dropOldest_29 : decode cX0_dropOldest 29 = .ok (.iinc 2 1, 3) := by decide +kernel
theorem dX0_dropOldest_32 : decode cX0_dropOldest 32 = .ok (.goto (-23), 3) := by decide +kernel
theorem dX0_dropOldest_35 : decode cX0_dropOldest 35 = .ok (.aload_n 0, 1) := by decide +kernel
theorem dX0_dropOldest_36 : decode cX0_dropOldest 36 = .ok (.getfield 11, 3) := by decide +kernel
theorem dX0_dropOldest_39 : decode cX0_dropOldest 39 = .ok (.bipush 8, 2) := by decide +kernel
theorem dX0_dropOldest_41 : decode cX0_dropOldest 41 = .ok (.aload_n 1, 1) := by decide +kernel
theorem dX0_dropOldest_42 : decode cX0_dropOldest 42 = .ok (.aastore, 1) := by decide +kernel
theorem dX0_dropOldest_43 : decode cX0_dropOldest 43 = .ok (.aload_n 0, 1) := by decide +kernel
theorem dX0_dropOldest_44 : decode cX0_dropOldest 44 = .ok (.dup, 1) := by decide +kernel
theorem dX0_dropOldest_45 : decode cX0_dropOldest 45 = .ok (.getfield 16, 3) := by decide +kernel
theorem dX0_dropOldest_48 : decode cX0_dropOldest 48 = .ok (.iconst 1, 1) := by decide +kernel
theorem dX0_dropOldest_49 : decode cX0_dropOldest 49 = .ok (.isub, 1) := by decide +kernel
theorem dX0_dropOldest_50 : decode cX0_dropOldest 50 = .ok (.putfield 16, 3) := by decide +kernel
theorem dX0_dropOldest_53 : decode cX0_dropOldest 53 = .ok (.return_, 1) := by decide +kernel
theorem dX1_init_0 : decode cX1_init 0 = .ok (.aload_n 0, 1) := by decide +kernel
theorem dX1_init_1 : decode cX1_init 1 = .ok (.invokespecial 3, 3) := by decide +kernel
theorem dX1_init_4 : decode cX1_init 4 = .ok (.aload_n 0, 1) := by decide +kernel
theorem dX1_init_5 : decode cX1_init 5 = .ok (.bipush 8, 2) := by decide +kernel
theorem dX1_init_7 : decode cX1_init 7 = .ok (.newarray .int, 2) := by decide +kernel
theorem dX1_init_9 : decode cX1_init 9 = .ok (.putfield 9, 3) := by decide +kernel
theorem dX1_init_12 : decode cX1_init 12 = .ok (.aload_n 0, 1) := by decide +kernel
theorem dX1_init_13 : decode cX1_init 13 = .ok (.iconst 4, 1) := by decide +kernel
theorem dX1_init_14 : decode cX1_init 14 = .ok (.putfield 15, 3) := by decide +kernel
theorem dX1_init_17 : decode cX1_init 17 = .ok (.return_, 1) := by decide +kernel
theorem dX1_copyFrom_0 : decode cX1_copyFrom 0 = .ok (.aload_n 0, 1) := by decide +kernel
theorem dX1_copyFrom_1 : decode cX1_copyFrom 1 = .ok (.aload_n 1, 1) := by decide +kernel
theorem dX1_copyFrom_2 : decode cX1_copyFrom 2 = .ok (.getfield 19, 3) := by decide +kernel
theorem dX1_copyFrom_5 : decode cX1_copyFrom 5 = .ok (.putfield 19, 3) := by decide +kernel
theorem dX1_copyFrom_8 : decode cX1_copyFrom 8 = .ok (.aload_n 0, 1) := by decide +kernel
theorem dX1_copyFrom_9 : decode cX1_copyFrom 9 = .ok (.aload_n 1, 1) := by decide +kernel
theorem dX1_copyFrom_10 : decode cX1_copyFrom 10 = .ok (.getfield 22, 3) := by decide +kernel
theorem dX1_copyFrom_13 : decode cX1_copyFrom 13 = .ok (.putfield 22, 3) := by decide +kernel
theorem dX1_copyFrom_16 : decode cX1_copyFrom 16 = .ok (.iconst 0, 1) := by decide +kernel
theorem dX1_copyFrom_17 : decode cX1_copyFrom 17 = .ok (.istore_n 2, 1) := by decide +kernel
theorem dX1_copyFrom_18 : decode cX1_copyFrom 18 = .ok (.iload_n 2, 1) := by decide +kernel
theorem dX1_copyFrom_19 : decode cX1_copyFrom 19 = .ok (.bipush 8, 2) := by decide +kernel
theorem dX1_copyFrom_21 : decode cX1_copyFrom 21 = .ok (.if_icmp .ge 21, 3) := by decide +kernel
theorem dX1_copyFrom_24 : decode cX1_copyFrom 24 = .ok (.aload_n 0, 1) := by decide +kernel
theorem dX1_copyFrom_25 : decode cX1_copyFrom 25 = .ok (.getfield 9, 3) := by decide +kernel
theorem dX1_copyFrom_28 : decode cX1_copyFrom 28 = .ok (.iload_n 2, 1) := by decide +kernel
theorem dX1_copyFrom_29 : decode cX1_copyFrom 29 = .ok (.aload_n 1, 1) := by decide +kernel
theorem dX1_copyFrom_30 : decode cX1_copyFrom 30 = .ok (.getfield 9, 3) := by decide +kernel
theorem dX1_copyFrom_33 : decode cX1_copyFrom 33 = .ok (.iload_n 2, 1) := by decide +kernel
theorem dX1_copyFrom_34 : decode cX1_copyFrom 34 = .ok (.iaload, 1) := by decide +kernel
theorem dX1_copyFrom_35 : decode cX1_copyFrom 35 = .ok (.iastore, 1) := by decide +kernel
theorem dX1_copyFrom_36 : decode cX1_copyFrom 36 = .ok (.iinc 2 1, 3) := by decide +kernel
theorem dX1_copyFrom_39 : decode cX1_copyFrom 39 = .ok (.goto (-21), 3) := by decide +kernel
theorem dX1_copyFrom_42 : decode cX1_copyFrom 42 = .ok (.aload_n 0, 1) := by decide +kernel
theorem dX1_copyFrom_43 : decode cX1_copyFrom 43 = .ok (.aload_n 1, 1) := by decide +kernel
theorem dX1_copyFrom_44 : decode cX1_copyFrom 44 = .ok (.getfield 15, 3) := by decide +kernel
theorem dX1_copyFrom_47 : decode cX1_copyFrom 47 = .ok (.putfield 15, 3) := by decide +kernel
theorem dX1_copyFrom_50 : decode cX1_copyFrom 50 = .ok (.aload_n 0, 1) := by decide +kernel
theorem dX1_copyFrom_51 : decode cX1_copyFrom 51 = .ok (.aload_n 1, 1) := by decide +kernel
theorem dX1_copyFrom_52 : decode cX1_copyFrom 52 = .ok (.getfield 25, 3) := by decide +kernel
theorem dX1_copyFrom_55 : decode cX1_copyFrom 55 = .ok (.putfield 25, 3) := by decide +kernel
theorem dX1_copyFrom_58 : decode cX1_copyFrom 58 = .ok (.return_, 1) := by decide +kernel
set_option maxRecDepth 20000 in
theorem ggX1_isLike_X1_unlikePowers : GoodIn wsX1_isLike wsX1_unlikePowers := goodIn_r _ [9, 4, 10, 11, 12, 8, 13, 14, 15, 16, 17, 18, 19] (by decide +kernel) (by decide +kernel)
set_option maxRecDepth 20000 in
theorem gX1_isLike_X1_unlikePowers : GoodIn wsX1_isLike (wsV RX1 29 RX1 yX1_unlikePowers wsX1_unlikePowers) := goodIn_app (goodIn_of _ (by decide +kernel)) ggX1_isLike_X1_unlikePowers
theorem dX1_isLike_0 : decode cX1_isLike 0 = .ok (.aload_n 0, 1) := by decide +kernel
theorem dX1_isLike_1 : decode cX1_isLike 1 = .ok (.getfield 19, 3) := by decide +kernel
theorem dX1_isLike_4 : decode cX1_isLike 4 = .ok (.aload_n 1, 1) := by decide +kernel
theorem dX1_isLike_5 : decode cX1_isLike 5 = .ok (.getfield 19, 3) := by decide +kernel
theorem dX1_isLike_8 : decode cX1_isLike 8 = .ok (.if_icmp .ne 49, 3) := by decide +kernel
theorem dX1_isLike_11 : decode cX1_isLike 11 = .ok (.aload_n 0, 1) := by decide +kernel
theorem dX1_isLike_12 : decode cX1_isLike 12 = .ok (.getfield 15, 3) := by decide +kernel
theorem dX1_isLike_15 : decode cX1_isLike 15 = .ok (.aload_n 1, 1) := by decide +kernel
theorem dX1_isLike_16 : decode cX1_isLike 16 = .ok (.getfield 15, 3) := by decide +kernel
theorem dX1_isLike_19 : decode cX1_isLike 19 = .ok (.if_icmp .ne 38, 3) := by decide +kernel
theorem dX1_isLike_22 : decode cX1_isLike 22 = .ok (.aload_n 0, 1) := by decide +kernel
theorem dX1_isLike_23 : decode cX1_isLike 23 = .ok (.getfield 25, 3) := by decide +kernel
theorem dX1_isLike_26 : decode cX1_isLike 26 = .ok (.aload_n 1, 1) := by decide +kernel
theorem dX1_isLike_27 : decode cX1_isLike 27 = .ok (.getfield 25, 3) := by decide +kernel
theorem dX1_isLike_30 : decode cX1_isLike 30 = .ok (.lcmp, 1) := by decide +kernel
theorem dX1_isLike_31 : decode cX1_isLike 31 = .ok (.ifCond .ne 26, 3) := by decide +kernel
theorem dX1_isLike_34 : decode cX1_isLike 34 = .ok (.aload_n 0, 1) := by decide +kernel
theorem dX1_isLike_35 : decode cX1_isLike 35 = .ok (.getfield 22, 3) := by decide +kernel
theorem dX1_isLike_38 : decode cX1_isLike 38 = .ok (.aload_n 1, 1) := by decide +kernel
theorem dX1_isLike_39 : decode cX1_isLike 39 = .ok (.getfield 22, 3) := by decide +kernel
theorem dX1_isLike_42 : decode cX1_isLike 42 = .ok (.if_icmp .ne 15, 3) := by decide +kernel
theorem dX1_isLike_45 : decode cX1_isLike 45 = .ok (.aload_n 0, 1) := by decide +kernel
theorem dX1_isLike_46 : decode cX1_isLike 46 = .ok (.aload_n 1, 1) := by decide +kernel
theorem dX1_isLike_47 : decode cX1_isLike 47 = .ok (.invokevirtual 29, 3) := by decide +kernel
theorem dX1_isLike_50 : decode cX1_isLike 50 = .ok (.ifCond .ne 7, 3) := by decide +kernel
theorem dX1_isLike_53 : decode cX1_isLike 53 = .ok (.iconst 1, 1) := by decide +kernel
theorem dX1_isLike_54 : decode cX1_isLike 54 = .ok (.goto 4, 3) := by decide +kernel
theorem dX1_isLike_57 : decode cX1_isLike 57 = .ok (.iconst 0, 1) := by decide +kernel
theorem dX1_isLike_58 : decode cX1_isLike 58 = .ok (.ireturn, 1) := by decide +kernel
set_option maxRecDepth 20000 in
theorem ggX1_unlikePowers_X1_powerAt : GoodIn wsX1_unlikePowers wsX1_powerAt := goodIn_r _ [6, 7, 8, 9, 10, 11, 12] (by decide +kernel) (by decide +kernel)
set_option maxRecDepth 20000 in
theorem gX1_unlikePowers_X1_powerAt : GoodIn wsX1_unlikePowers (wsV RX1 33 RX1 yX1_powerAt wsX1_powerAt) := goodIn_app (goodIn_of _ (by decide +kernel)) ggX1_unlikePowers_X1_powerAt
theorem dX1_unlikePowers_0 : decode cX1_unlikePowers 0 = .ok (.iconst 0, 1) := by decide +kernel
theorem dX1_unlikePowers_1 : decode cX1_unlikePowers 1 = .ok (.istore_n 2, 1) := by decide +kernel
theorem dX1_unlikePowers_2 : decode cX1_unlikePowers 2 = .ok (.iconst 0, 1) := by decide +kernel
theorem dX1_unlikePowers_3 : decode cX1_unlikePowers 3 = .ok (.istore_n 3, 1) := by decide +kernel
theorem dX1_unlikePowers_4 : decode cX1_unlikePowers 4 = .ok (.iload_n 3, 1) := by decide +kernel
theorem dX1_unlikePowers_5 : decode cX1_unlikePowers 5 = .ok (.aload_n 0, 1) := by decide +kernel
theorem dX1_unlikePowers_6 : decode cX1_unlikePowers 6 = .ok (.getfield 22, 3) := by decide +kernel
theorem dX1_unlikePowers_9 : decode cX1_unlikePowers 9 = .ok (.if_icmp .ge 33, 3) := by decide +kernel
theorem dX1_unlikePowers_12 : decode cX1_unlikePowers 12 = .ok (.iload_n 3, 1) := by decide +kernel
theorem dX1_unlikePowers_13 : decode cX1_unlikePowers 13 = .ok (.aload_n 1, 1) := by decide +kernel
theorem dX1_unlikePowers_14 : decode cX1_unlikePowers 14 = .ok (.getfield 22, 3) := by decide +kernel
theorem dX1_unlikePowers_17 : decode cX1_unlikePowers 17 = .ok (.if_icmp .ge 25, 3) := by decide +kernel
theorem dX1_unlikePowers_20 : decode cX1_unlikePowers 20 = .ok (.aload_n 0, 1) := by decide +kernel
theorem dX1_unlikePowers_21 : decode cX1_unlikePowers 21 = .ok (.iload_n 3, 1) := by decide +kernel
theorem dX1_unlikePowers_22 : decode cX1_unlikePowers 22 = .ok (.invokevirtual 33, 3) := by decide +kernel
theorem dX1_unlikePowers_25 : decode cX1_unlikePowers 25 = .ok (.aload_n 1, 1) := by decide +kernel
theorem dX1_unlikePowers_26 : decode cX1_unlikePowers 26 = .ok (.iload_n 3, 1) := by decide +kernel
theorem dX1_unlikePowers_27 : decode cX1_unlikePowers 27 = .ok (.invokevirtual 33, 3) := by decide +kernel
theorem dX1_unlikePowers_30 : decode cX1_unlikePowers 30 = .ok (.if_icmp .eq 6, 3) := by decide +kernel
theorem dX1_unlikePowers_33 : decode cX1_unlikePowers 33 = .ok (.iinc 2 1, 3) := by decide +kernel
theorem dX1_unlikePowers_36 : decode cX1_unlikePowers 36 = .ok (.iinc 3 1, 3) := by decide +kernel
theorem dX1_unlikePowers_39 : decode cX1_unlikePowers 39 = .ok (.goto (-35), 3) := by decide +kernel
theorem dX1_unlikePowers_42 : decode cX1_unlikePowers 42 = .ok (.iload_n 2, 1) := by decide +kernel
theorem dX1_unlikePowers_43 : decode cX1_unlikePowers 43 = .ok (.ireturn, 1) := by decide +kernel
theorem dX1_hasMark_0 : decode cX1_hasMark 0 = .ok (.iload_n 1, 1) := by decide +kernel
theorem dX1_hasMark_1 : decode cX1_hasMark 1 = .ok (.ifCond .lt 15, 3) := by decide +kernel
theorem dX1_hasMark_4 : decode cX1_hasMark 4 = .ok (.iload_n 1, 1) := by decide +kernel
theorem dX1_hasMark_5 : decode cX1_hasMark 5 = .ok (.aload_n 0, 1) := by decide +kernel
theorem dX1_hasMark_6 : decode cX1_hasMark 6 = .ok (.getfield 22, 3) := by decide +kernel
theorem dX1_hasMark_9 : decode cX1_hasMark 9 = .ok (.if_icmp .ge 7, 3) := by decide +kernel
theorem dX1_hasMark_12 : decode cX1_hasMark 12 = .ok (.iconst 1, 1) := by decide +kernel
theorem dX1_hasMark_13 : decode cX1_hasMark 13 = .ok (.goto 4, 3) := by decide +kernel
theorem dX1_hasMark_16 : decode cX1_hasMark 16 = .ok (.iconst 0, 1) := by decide +kernel
theorem dX1_hasMark_17 : decode cX1_hasMark 17 = .ok (.ireturn, 1) := by decide +kernel
theorem dX1_powerAt_0 : decode cX1_powerAt 0 = .ok (.iload_n 1, 1) := by decide +kernel
theorem dX1_powerAt_1 : decode cX1_powerAt 1 = .ok (.ifCond .lt 18, 3) := by decide +kernel
theorem dX1_powerAt_4 : decode cX1_powerAt 4 = .ok (.iload_n 1, 1) := by decide +kernel
theorem dX1_powerAt_5 : decode cX1_powerAt 5 = .ok (.bipush 8, 2) := by decide +kernel
theorem dX1_powerAt_7 : decode cX1_powerAt 7 = .ok (.if_icmp .ge 12, 3) := by decide +kernel
theorem dX1_powerAt_10 : decode cX1_powerAt 10 = .ok (.aload_n 0, 1) := by decide +kernel
theorem dX1_powerAt_11 : decode cX1_powerAt 11 = .ok (.getfield 9, 3) := by decide +kernel
theorem dX1_powerAt_14 : decode cX1_powerAt 14 = .ok (.iload_n 1, 1) := by decide +kernel
theorem dX1_powerAt_15 : decode cX1_powerAt 15 = .ok (.iaload, 1) := by decide +kernel
theorem dX1_powerAt_16 : decode cX1_powerAt 16 = .ok (.goto 4, 3) := by decide +kernel
theorem dX1_powerAt_19 : decode cX1_powerAt 19 = .ok (.iconst 0, 1) := by decide +kernel
theorem dX1_powerAt_20 : decode cX1_powerAt 20 = .ok (.ireturn, 1) := by decide +kernel
theorem dX1_setPower_0 : decode cX1_setPower 0 = .ok (.iload_n 1, 1) := by decide +kernel
theorem dX1_setPower_1 : decode cX1_setPower 1 = .ok (.ifCond .lt 16, 3) := by decide +kernel
theorem dX1_setPower_4 : decode cX1_setPower 4 = .ok (.iload_n 1, 1) := by decide +kernel
theorem dX1_setPower_5 : decode cX1_setPower 5 = .ok (.bipush 8, 2) := by decide +kernel
theorem dX1_setPower_7 : decode cX1_setPower 7 = .ok (.if_icmp .ge 10, 3) := by decide +kernel
theorem dX1_setPower_10 : decode cX1_setPower 10 = .ok (.aload_n 0, 1) := by decide +kernel
theorem dX1_setPower_11 : decode cX1_setPower 11 = .ok (.getfield 9, 3) := by decide +kernel
theorem dX1_setPower_14 : decode cX1_setPower 14 = .ok (.iload_n 1, 1) := by decide +kernel
theorem dX1_setPower_15 : decode cX1_setPower 15 = .ok (.iload_n 2, 1) := by decide +kernel
theorem dX1_setPower_16 : decode cX1_setPower 16 = .ok (.iastore, 1) := by decide +kernel
theorem dX1_setPower_17 : decode cX1_setPower 17 = .ok (.return_, 1) := by decide +kernel
set_option maxRecDepth 20000 in
theorem ggX1_addMark_X1_setPower : GoodIn wsX1_addMark wsX1_setPower := goodIn_r _ [6, 7, 8, 9, 10, 11, 12] (by decide +kernel) (by decide +kernel)
set_option maxRecDepth 20000 in
theorem gX1_addMark_X1_setPower : GoodIn wsX1_addMark (wsV RX1 37 RX1 yX1_setPower wsX1_setPower) := goodIn_app (goodIn_of _ (by decide +kernel)) ggX1_addMark_X1_setPower
theorem dX1_addMark_0 : decode cX1_addMark 0 = .ok (.aload_n 0, 1) := by decide +kernel
theorem dX1_addMark_1 : decode cX1_addMark 1 = .ok (.getfield 22, 3) := by decide +kernel
theorem dX1_addMark_4 : decode cX1_addMark 4 = .ok (.bipush 8, 2) := by decide +kernel
theorem dX1_addMark_6 : decode cX1_addMark 6 = .ok (.if_icmp .ge 22, 3) := by decide +kernel
theorem dX1_addMark_9 : decode cX1_addMark 9 = .ok (.aload_n 0, 1) := by decide +kernel
theorem dX1_addMark_10 : decode cX1_addMark 10 = .ok (.aload_n 0, 1) := by decide +kernel
theorem dX1_addMark_11 : decode cX1_addMark 11 = .ok (.getfield 22, 3) := by decide +kernel
theorem dX1_addMark_14 : decode cX1_addMark 14 = .ok (.iload_n 1, 1) := by decide +kernel
theorem dX1_addMark_15 : decode cX1_addMark 15 = .ok (.invokevirtual 37, 3) := by decide +kernel
theorem dX1_addMark_18 : decode cX1_addMark 18 = .ok (.aload_n 0, 1) := by decide +kernel
theorem dX1_addMark_19 : decode cX1_addMark 19 = .ok (.dup, 1) := by decide +kernel
theorem dX1_addMark_20 : decode cX1_addMark 20 = .ok (.getfield 22, 3) := by decide +kernel
theorem dX1_addMark_23 : decode cX1_addMark 23 = .ok (.iconst 1, 1) := by decide +kernel
theorem dX1_addMark_24 : decode cX1_addMark 24 = .ok (.iadd, 1) := by decide +kernel
theorem dX1_addMark_25 : decode cX1_addMark 25 = .ok (.putfield 22, 3) := by decide +kernel
theorem dX1_addMark_28 : decode cX1_addMark 28 = .ok (.return_, 1) := by decide +kernel
set_option maxRecDepth 20000 in
theorem ggX1_dropMark_X1_powerAt : GoodIn wsX1_dropMark wsX1_powerAt := goodIn_r _ [6, 7, 12, 13, 14, 15, 16] (by decide +kernel) (by decide +kernel)
set_option maxRecDepth 20000 in
theorem gX1_dropMark_X1_powerAt : GoodIn wsX1_dropMark (wsV RX1 33 RX1 yX1_powerAt wsX1_powerAt) := goodIn_app (goodIn_of _ (by decide +kernel)) ggX1_dropMark_X1_powerAt
set_option maxRecDepth 20000 in
theorem ggX1_dropMark_X1_setPower : GoodIn wsX1_dropMark wsX1_setPower := goodIn_r _ [11, 7, 12, 13, 14, 15, 16] (by decide +kernel) (by decide +kernel)
set_option maxRecDepth 20000 in
theorem gX1_dropMark_X1_setPower : GoodIn wsX1_dropMark (wsV RX1 37 RX1 yX1_setPower wsX1_setPower) := goodIn_app (goodIn_of _ (by decide +kernel)) ggX1_dropMark_X1_setPower
theorem dX1_dropMark_0 : decode cX1_dropMark 0 = .ok (.iload_n 1, 1) := by decide +kernel
theorem dX1_dropMark_1 : decode cX1_dropMark 1 = .ok (.istore_n 2, 1) := by decide +kernel
theorem dX1_dropMark_2 : decode cX1_dropMark 2 = .ok (.iload_n 2, 1) := by decide +kernel
theorem dX1_dropMark_3 : decode cX1_dropMark 3 = .ok (.aload_n 0, 1) := by decide +kernel
theorem dX1_dropMark_4 : decode cX1_dropMark 4 = .ok (.getfield 22, 3) := by decide +kernel
theorem dX1_dropMark_7 : decode cX1_dropMark 7 = .ok (.iconst 1, 1) := by decide +kernel
theorem dX1_dropMark_8 : decode cX1_dropMark 8 = .ok (.isub, 1) := by decide +kernel
theorem dX1_dropMark_9 : decode cX1_dropMark 9 = .ok (.if_icmp .ge 21, 3) := by decide +kernel
theorem dX1_dropMark_12 : decode cX1_dropMark 12 = .ok (.aload_n 0, 1) := by decide +kernel
theorem dX1_dropMark_13 : decode cX1_dropMark 13 = .ok (.iload_n 2, 1) := by decide +kernel
theorem dX1_dropMark_14 : decode cX1_dropMark 14 = .ok (.aload_n 0, 1) := by decide +kernel
theorem dX1_dropMark_15 : decode cX1_dropMark 15 = .ok (.iload_n 2, 1) := by decide +kernel
theorem dX1_dropMark_16 : decode cX1_dropMark 16 = .ok (.iconst 1, 1) := by decide +kernel
theorem dX1_dropMark_17 : decode cX1_dropMark 17 = .ok (.iadd, 1) := by decide +kernel
theorem dX1_dropMark_18 : decode cX1_dropMark 18 = .ok (.invokevirtual 33, 3) := by decide +kernel
theorem dX1_dropMark_21 : decode cX1_dropMark 21 = .ok (.invokevirtual 37, 3) := by decide +kernel
theorem dX1_dropMark_24 : decode cX1_dropMark 24 = .ok (.iinc 2 1, 3) := by decide +kernel
theorem dX1_dropMark_27 : decode cX1_dropMark 27 = .ok (.goto (-25), 3) := by decide +kernel
theorem dX1_dropMark_30 : decode cX1_dropMark 30 = .ok (.aload_n 0, 1) := by decide +kernel
theorem dX1_dropMark_31 : decode cX1_dropMark 31 = .ok (.dup, 1) := by decide +kernel
theorem dX1_dropMark_32 : decode cX1_dropMark 32 = .ok (.getfield 22, 3) := by decide +kernel
theorem dX1_dropMark_35 : decode cX1_dropMark 35 = .ok (.iconst 1, 1) := by decide +kernel
theorem dX1_dropMark_36 : decode cX1_dropMark 36 = .ok (.isub, 1) := by decide +kernel
theorem dX1_dropMark_37 : decode cX1_dropMark 37 = .ok (.putfield 22, 3) := by decide +kernel
theorem dX1_dropMark_40 : decode cX1_dropMark 40 = .ok (.return_, 1) := by decide +kernel
set_option maxRecDepth 20000 in
theorem ggX1_sortRising_X1_powerAt : GoodIn wsX1_sortRising wsX1_powerAt := goodIn_r _ [6, 7, 16, 17, 18, 19, 20] (by decide +kernel) (by decide +kernel)
set_option maxRecDepth 20000 in
theorem gX1_sortRising_X1_powerAt : GoodIn wsX1_sortRising (wsV RX1 33 RX1 yX1_powerAt wsX1_powerAt) := goodIn_app (goodIn_of _ (by decide +kernel)) ggX1_sortRising_X1_powerAt
set_option maxRecDepth 20000 in
theorem ggX1_sortRising_X1_swap : GoodIn wsX1_sortRising wsX1_swap := goodIn_r _ [11, 2, 3, 4, 5, 6, 7, 12, 13, 14, 15, 16, 17, 18, 19, 20] (by decide +kernel) (by decide +kernel)
set_option maxRecDepth 20000 in
theorem gX1_sortRising_X1_swap : GoodIn wsX1_sortRising (wsV RX1 41 RX1 yX1_swap wsX1_swap) := goodIn_app (goodIn_of _ (by decide +kernel)) ggX1_sortRising_X1_swap
theorem dX1_sortRising_0 : decode cX1_sortRising 0 = .ok (.aload_n 0, 1) := by decide +kernel
theorem dX1_sortRising_1 : decode cX1_sortRising 1 = .ok (.getfield 22, 3) := by decide +kernel
theorem dX1_sortRising_4 : decode cX1_sortRising 4 = .ok (.iconst 1, 1) := by decide +kernel
theorem dX1_sortRising_5 : decode cX1_sortRising 5 = .ok (.isub, 1) := by decide +kernel
theorem dX1_sortRising_6 : decode cX1_sortRising 6 = .ok (.istore_n 1, 1) := by decide +kernel
theorem dX1_sortRising_7 : decode cX1_sortRising 7 = .ok (.iload_n 1, 1) := by decide +kernel
theorem dX1_sortRising_8 : decode cX1_sortRising 8 = .ok (.ifCond .le 45, 3) := by decide +kernel
theorem dX1_sortRising_11 : decode cX1_sortRising 11 = .ok (.iconst 0, 1) := by decide +kernel
theorem dX1_sortRising_12 : decode cX1_sortRising 12 = .ok (.istore_n 2, 1) := by decide +kernel
theorem dX1_sortRising_13 : decode cX1_sortRising 13 = .ok (.iload_n 2, 1) := by decide +kernel
theorem dX1_sortRising_14 : decode cX1_sortRising 14 = .ok (.iload_n 1, 1) := by decide +kernel
theorem dX1_sortRising_15 : decode cX1_sortRising 15 = .ok (.if_icmp .ge 32, 3) := by decide +kernel
theorem dX1_sortRising_18 : decode cX1_sortRising 18 = .ok (.aload_n 0, 1) := by decide +kernel
theorem dX1_sortRising_19 : decode cX1_sortRising 19 = .ok (.iload_n 2, 1) := by decide +kernel
theorem dX1_sortRising_20 : decode cX1_sortRising 20 = .ok (.invokevirtual 33, 3) := by decide +kernel
theorem dX1_sortRising_23 : decode cX1_sortRising 23 = .ok (.aload_n 0, 1) := by decide +kernel
theorem dX1_sortRising_24 : decode cX1_sortRising 24 = .ok (.iload_n 2, 1) := by decide +kernel
theorem dX1_sortRising_25 : decode cX1_sortRising 25 = .ok (.iconst 1, 1) := by decide +kernel
theorem dX1_sortRising_26 : decode cX1_sortRising 26 = .ok (.iadd, 1) := by decide +kernel
theorem dX1_sortRising_27 : decode cX1_sortRising 27 = .ok (.invokevirtual 33, 3) := by decide +kernel
theorem dX1_sortRising_30 : decode cX1_sortRising 30 = .ok (.if_icmp .le 11, 3) := by decide +kernel
theorem dX1_sortRising_33 : decode cX1_sortRising 33 = .ok (.aload_n 0, 1) := by decide +kernel
theorem dX1_sortRising_34 : decode cX1_sortRising 34 = .ok (.iload_n 2, 1) := by decide +kernel
theorem dX1_sortRising_35 : decode cX1_sortRising 35 = .ok (.iload_n 2, 1) := by decide +kernel
theorem dX1_sortRising_36 : decode cX1_sortRising 36 = .ok (.iconst 1, 1) := by decide +kernel
theorem dX1_sortRising_37 : decode cX1_sortRising 37 = .ok (.iadd, 1) := by decide +kernel
theorem dX1_sortRising_38 : decode cX1_sortRising 38 = .ok (.invokevirtual 41, 3) := by decide +kernel
theorem dX1_sortRising_41 : decode cX1_sortRising 41 = .ok (.iinc 2 1, 3) := by decide +kernel
theorem dX1_sortRising_44 : decode cX1_sortRising 44 = .ok (.goto (-31), 3) := by decide +kernel
theorem dX1_sortRising_47 : decode cX1_sortRising 47 = .ok (.iinc 1 (-1), 3) := by decide +kernel
theorem dX1_sortRising_50 : decode cX1_sortRising 50 = .ok (.goto (-43), 3) := by decide +kernel
theorem dX1_sortRising_53 : decode cX1_sortRising 53 = .ok (.return_, 1) := by decide +kernel
set_option maxRecDepth 20000 in
theorem ggX1_turnAbout_X1_swap : GoodIn wsX1_turnAbout wsX1_swap := goodIn_r _ [6, 7, 8, 9, 5, 10, 11, 12, 13, 14, 15, 16, 17, 18, 19, 20] (by decide +kernel) (by decide +kernel)
set_option maxRecDepth 20000 in
theorem gX1_turnAbout_X1_swap : GoodIn wsX1_turnAbout (wsV RX1 41 RX1 yX1_swap wsX1_swap) := goodIn_app (goodIn_of _ (by decide +kernel)) ggX1_turnAbout_X1_swap
theorem dX1_turnAbout_0 : decode cX1_turnAbout 0 = .ok (.iconst 0, 1) := by decide +kernel
theorem dX1_turnAbout_1 : decode cX1_turnAbout 1 = .ok (.istore_n 1, 1) := by decide +kernel
theorem dX1_turnAbout_2 : decode cX1_turnAbout 2 = .ok (.iload_n 1, 1) := by decide +kernel
theorem dX1_turnAbout_3 : decode cX1_turnAbout 3 = .ok (.aload_n 0, 1) := by decide +kernel
theorem dX1_turnAbout_4 : decode cX1_turnAbout 4 = .ok (.getfield 22, 3) := by decide +kernel
theorem dX1_turnAbout_7 : decode cX1_turnAbout 7 = .ok (.iconst 2, 1) := by decide +kernel
theorem dX1_turnAbout_8 : decode cX1_turnAbout 8 = .ok (.idiv, 1) := by decide +kernel
theorem dX1_turnAbout_9 : decode cX1_turnAbout 9 = .ok (.if_icmp .ge 22, 3) := by decide +kernel
theorem dX1_turnAbout_12 : decode cX1_turnAbout 12 = .ok (.aload_n 0, 1) := by decide +kernel
theorem dX1_turnAbout_13 : decode cX1_turnAbout 13 = .ok (.iload_n 1, 1) := by decide +kernel
theorem dX1_turnAbout_14 : decode cX1_turnAbout 14 = .ok (.aload_n 0, 1) := by decide +kernel
theorem dX1_turnAbout_15 : decode cX1_turnAbout 15 = .ok (.getfield 22, 3) := by decide +kernel
theorem dX1_turnAbout_18 : decode cX1_turnAbout 18 = .ok (.iconst 1, 1) := by decide +kernel
theorem dX1_turnAbout_19 : decode cX1_turnAbout 19 = .ok (.isub, 1) := by decide +kernel
theorem dX1_turnAbout_20 : decode cX1_turnAbout 20 = .ok (.iload_n 1, 1) := by decide +kernel
theorem dX1_turnAbout_21 : decode cX1_turnAbout 21 = .ok (.isub, 1) := by decide +kernel
theorem dX1_turnAbout_22 : decode cX1_turnAbout 22 = .ok (.invokevirtual 41, 3) := by decide +kernel
theorem dX1_turnAbout_25 : decode cX1_turnAbout 25 = .ok (.iinc 1 1, 3) := by decide +kernel
theorem dX1_turnAbout_28 : decode cX1_turnAbout 28 = .ok (.goto (-26), 3) := by decide +kernel
theorem dX1_turnAbout_31 : decode cX1_turnAbout 31 = .ok (.return_, 1) := by decide +kernel
set_option maxRecDepth 20000 in
theorem ggX1_putFirstLast_X1_swap : GoodIn wsX1_putFirstLast wsX1_swap := goodIn_r _ [6, 7, 8, 9, 5, 10, 11, 12, 13, 14, 15, 16, 17, 18, 19, 20] (by decide +kernel) (by decide +kernel)
set_option maxRecDepth 20000 in
theorem gX1_putFirstLast_X1_swap : GoodIn wsX1_putFirstLast (wsV RX1 41 RX1 yX1_swap wsX1_swap) := goodIn_app (goodIn_of _ (by decide +kernel)) ggX1_putFirstLast_X1_swap
theorem dX1_putFirstLast_0 : decode cX1_putFirstLast 0 = .ok (.iconst 0, 1) := by decide +kernel
theorem dX1_putFirstLast_1 : decode cX1_putFirstLast 1 = .ok (.istore_n 1, 1) := by decide +kernel
theorem dX1_putFirstLast_2 : decode cX1_putFirstLast 2 = .ok (.iload_n 1, 1) := by decide +kernel
theorem dX1_putFirstLast_3 : decode cX1_putFirstLast 3 = .ok (.aload_n 0, 1) := by decide +kernel
theorem dX1_putFirstLast_4 : decode cX1_putFirstLast 4 = .ok (.getfield 22, 3) := by decide +kernel
theorem dX1_putFirstLast_7 : decode cX1_putFirstLast 7 = .ok (.iconst 1, 1) := by decide +kernel
theorem dX1_putFirstLast_8 : decode cX1_putFirstLast 8 = .ok (.isub, 1) := by decide +kernel
theorem dX1_putFirstLast_9 : decode cX1_putFirstLast 9 = .ok (.if_icmp .ge 17, 3) := by decide +kernel
theorem dX1_putFirstLast_12 : decode cX1_putFirstLast 12 = .ok (.aload_n 0, 1) := by decide +kernel
theorem dX1_putFirstLast_13 : decode cX1_putFirstLast 13 = .ok (.iload_n 1, 1) := by decide +kernel
theorem dX1_putFirstLast_14 : decode cX1_putFirstLast 14 = .ok (.iload_n 1, 1) := by decide +kernel
theorem dX1_putFirstLast_15 : decode cX1_putFirstLast 15 = .ok (.iconst 1, 1) := by decide +kernel
theorem dX1_putFirstLast_16 : decode cX1_putFirstLast 16 = .ok (.iadd, 1) := by decide +kernel
theorem dX1_putFirstLast_17 : decode cX1_putFirstLast 17 = .ok (.invokevirtual 41, 3) := by decide +kernel
theorem dX1_putFirstLast_20 : decode cX1_putFirstLast 20 = .ok (.iinc 1 1, 3) := by decide +kernel
theorem dX1_putFirstLast_23 : decode cX1_putFirstLast 23 = .ok (.goto (-21), 3) := by decide +kernel
theorem dX1_putFirstLast_26 : decode cX1_putFirstLast 26 = .ok (.return_, 1) := by decide +kernel
set_option maxRecDepth 20000 in
theorem ggX1_swap_X1_powerAt : GoodIn wsX1_swap wsX1_powerAt := goodIn_r _ [5, 6, 11, 12, 13, 14, 15] (by decide +kernel) (by decide +kernel)
set_option maxRecDepth 20000 in
theorem gX1_swap_X1_powerAt : GoodIn wsX1_swap (wsV RX1 33 RX1 yX1_powerAt wsX1_powerAt) := goodIn_app (goodIn_of _ (by decide +kernel)) ggX1_swap_X1_powerAt
set_option maxRecDepth 20000 in
theorem ggX1_swap_X1_setPower : GoodIn wsX1_swap wsX1_setPower := goodIn_r _ [10, 6, 11, 12, 13, 14, 15] (by decide +kernel) (by decide +kernel)
set_option maxRecDepth 20000 in
theorem gX1_swap_X1_setPower : GoodIn wsX1_swap (wsV RX1 37 RX1 yX1_setPower wsX1_setPower) := goodIn_app (goodIn_of _ (by decide +kernel)) ggX1_swap_X1_setPower
theorem dX1_swap_0 : decode cX1_swap 0 = .ok (.aload_n 0, 1) := by decide +kernel
theorem dX1_swap_1 : decode cX1_swap 1 = .ok (.iload_n 1, 1) := by decide +kernel
theorem dX1_swap_2 : decode cX1_swap 2 = .ok (.invokevirtual 33, 3) := by decide +kernel
theorem dX1_swap_5 : decode cX1_swap 5 = .ok (.istore_n 3, 1) := by decide +kernel
theorem dX1_swap_6 : decode cX1_swap 6 = .ok (.aload_n 0, 1) := by decide +kernel
theorem dX1_swap_7 : decode cX1_swap 7 = .ok (.iload_n 1, 1) := by decide +kernel
theorem dX1_swap_8 : decode cX1_swap 8 = .ok (.aload_n 0, 1) := by decide +kernel
theorem dX1_swap_9 : decode cX1_swap 9 = .ok (.iload_n 2, 1) := by decide +kernel
theorem dX1_swap_10 : decode cX1_swap 10 = .ok (.invokevirtual 33, 3) := by decide +kernel
theorem dX1_swap_13 : decode cX1_swap 13 = .ok (.invokevirtual 37, 3) := by decide +kernel
theorem dX1_swap_16 : decode cX1_swap 16 = .ok (.aload_n 0, 1) := by decide +kernel
theorem dX1_swap_17 : decode cX1_swap 17 = .ok (.iload_n 2, 1) := by decide +kernel
theorem dX1_swap_18 : decode cX1_swap 18 = .ok (.iload_n 3, 1) := by decide +kernel
theorem dX1_swap_19 : decode cX1_swap 19 = .ok (.invokevirtual 37, 3) := by decide +kernel
theorem dX1_swap_22 : decode cX1_swap 22 = .ok (.return_, 1) := by decide +kernel
theorem dX2_init_0 : decode cX2_init 0 = .ok (.aload_n 0, 1) := by decide +kernel
theorem dX2_init_1 : decode cX2_init 1 = .ok (.invokespecial 3, 3) := by decide +kernel
theorem dX2_init_4 : decode cX2_init 4 = .ok (.aload_n 0, 1) := by decide +kernel
theorem dX2_init_5 : decode cX2_init 5 = .ok (.bipush 20, 2) := by decide +kernel
theorem dX2_init_7 : decode cX2_init 7 = .ok (.newarray .int, 2) := by decide +kernel
theorem dX2_init_9 : decode cX2_init 9 = .ok (.putfield 11, 3) := by decide +kernel
theorem dX2_init_12 : decode cX2_init 12 = .ok (.return_, 1) := by decide +kernel
theorem dX2_holdNumber_0 : decode cX2_holdNumber 0 = .ok (.aload_n 0, 1) := by decide +kernel
theorem dX2_holdNumber_1 : decode cX2_holdNumber 1 = .ok (.iconst 1, 1) := by decide +kernel
theorem dX2_holdNumber_2 : decode cX2_holdNumber 2 = .ok (.putfield 15, 3) := by decide +kernel
theorem dX2_holdNumber_5 : decode cX2_holdNumber 5 = .ok (.aload_n 0, 1) := by decide +kernel
theorem dX2_holdNumber_6 : decode cX2_holdNumber 6 = .ok (.lload_n 1, 1) := by decide +kernel
theorem dX2_holdNumber_7 : decode cX2_holdNumber 7 = .ok (.putfield 19, 3) := by decide +kernel
theorem dX2_holdNumber_10 : decode cX2_holdNumber 10 = .ok (.return_, 1) := by decide +kernel
theorem dX2_holdTree_0 : decode cX2_holdTree 0 = .ok (.aload_n 0, 1) := by decide +kernel
theorem dX2_holdTree_1 : decode cX2_holdTree 1 = .ok (.iconst 2, 1) := by decide +kernel
theorem dX2_holdTree_2 : decode cX2_holdTree 2 = .ok (.putfield 15, 3) := by decide +kernel
theorem dX2_holdTree_5 : decode cX2_holdTree 5 = .ok (.aload_n 0, 1) := by decide +kernel
theorem dX2_holdTree_6 : decode cX2_holdTree 6 = .ok (.lload_n 1, 1) := by decide +kernel
theorem dX2_holdTree_7 : decode cX2_holdTree 7 = .ok (.putfield 23, 3) := by decide +kernel
theorem dX2_holdTree_10 : decode cX2_holdTree 10 = .ok (.aload_n 0, 1) := by decide +kernel
theorem dX2_holdTree_11 : decode cX2_holdTree 11 = .ok (.iload_n 3, 1) := by decide +kernel
theorem dX2_holdTree_12 : decode cX2_holdTree 12 = .ok (.putfield 26, 3) := by decide +kernel
theorem dX2_holdTree_15 : decode cX2_holdTree 15 = .ok (.return_, 1) := by decide +kernel
theorem dX2_holdRow_0 : decode cX2_holdRow 0 = .ok (.aload_n 0, 1) := by decide +kernel
theorem dX2_holdRow_1 : decode cX2_holdRow 1 = .ok (.iconst 3, 1) := by decide +kernel
theorem dX2_holdRow_2 : decode cX2_holdRow 2 = .ok (.putfield 15, 3) := by decide +kernel
theorem dX2_holdRow_5 : decode cX2_holdRow 5 = .ok (.aload_n 0, 1) := by decide +kernel
theorem dX2_holdRow_6 : decode cX2_holdRow 6 = .ok (.iload_n 1, 1) := by decide +kernel
theorem dX2_holdRow_7 : decode cX2_holdRow 7 = .ok (.putfield 29, 3) := by decide +kernel
theorem dX2_holdRow_10 : decode cX2_holdRow 10 = .ok (.iconst 0, 1) := by decide +kernel
theorem dX2_holdRow_11 : decode cX2_holdRow 11 = .ok (.istore_n 2, 1) := by decide +kernel
theorem dX2_holdRow_12 : decode cX2_holdRow 12 = .ok (.iload_n 2, 1) := by decide +kernel
theorem dX2_holdRow_13 : decode cX2_holdRow 13 = .ok (.bipush 20, 2) := by decide +kernel
theorem dX2_holdRow_15 : decode cX2_holdRow 15 = .ok (.if_icmp .ge 16, 3) := by decide +kernel
theorem dX2_holdRow_18 : decode cX2_holdRow 18 = .ok (.aload_n 0, 1) := by decide +kernel
theorem dX2_holdRow_19 : decode cX2_holdRow 19 = .ok (.getfield 11, 3) := by decide +kernel
theorem dX2_holdRow_22 : decode cX2_holdRow 22 = .ok (.iload_n 2, 1) := by decide +kernel
theorem dX2_holdRow_23 : decode cX2_holdRow 23 = .ok (.iconst 0, 1) := by decide +kernel
theorem dX2_holdRow_24 : decode cX2_holdRow 24 = .ok (.iastore, 1) := by decide +kernel
theorem dX2_holdRow_25 : decode cX2_holdRow 25 = .ok (.iinc 2 1, 3) := by decide +kernel
theorem dX2_holdRow_28 : decode cX2_holdRow 28 = .ok (.goto (-16), 3) := by decide +kernel
theorem dX2_holdRow_31 : decode cX2_holdRow 31 = .ok (.return_, 1) := by decide +kernel
theorem dX2_hasPlace_0 : decode cX2_hasPlace 0 = .ok (.iload_n 1, 1) := by decide +kernel
theorem dX2_hasPlace_1 : decode cX2_hasPlace 1 = .ok (.ifCond .lt 21, 3) := by decide +kernel
theorem dX2_hasPlace_4 : decode cX2_hasPlace 4 = .ok (.iload_n 1, 1) := by decide +kernel
theorem dX2_hasPlace_5 : decode cX2_hasPlace 5 = .ok (.aload_n 0, 1) := by decide +kernel
theorem dX2_hasPlace_6 : decode cX2_hasPlace 6 = .ok (.getfield 29, 3) := by decide +kernel
theorem dX2_hasPlace_9 : decode cX2_hasPlace 9 = .ok (.if_icmp .ge 13, 3) := by decide +kernel
theorem dX2_hasPlace_12 : decode cX2_hasPlace 12 = .ok (.iload_n 1, 1) := by decide +kernel
theorem dX2_hasPlace_13 : decode cX2_hasPlace 13 = .ok (.bipush 20, 2) := by decide +kernel
theorem dX2_hasPlace_15 : decode cX2_hasPlace 15 = .ok (.if_icmp .ge 7, 3) := by decide +kernel
theorem dX2_hasPlace_18 : decode cX2_hasPlace 18 = .ok (.iconst 1, 1) := by decide +kernel
theorem dX2_hasPlace_19 : decode cX2_hasPlace 19 = .ok (.goto 4, 3) := by decide +kernel
theorem dX2_hasPlace_22 : decode cX2_hasPlace 22 = .ok (.iconst 0, 1) := by decide +kernel
theorem dX2_hasPlace_23 : decode cX2_hasPlace 23 = .ok (.ireturn, 1) := by decide +kernel
set_option maxRecDepth 20000 in
theorem ggX2_isOfKind_X2_isFullTree : GoodIn wsX2_isOfKind wsX2_isFullTree := goodIn_r _ [7, 2, 8, 9, 10, 11, 12, 13, 14, 15, 16, 17, 18, 19, 20, 21, 22, 23, 24, 25] (by decide +kernel) (by decide +kernel)
set_option maxRecDepth 20000 in
theorem gX2_isOfKind_X2_isFullTree : GoodIn wsX2_isOfKind (wsV RX2 32 RX2 yX2_isFullTree wsX2_isFullTree) := goodIn_app (goodIn_of _ (by decide +kernel)) ggX2_isOfKind_X2_isFullTree
theorem dX2_isOfKind_0 : decode cX2_isOfKind 0 = .ok (.iload_n 1, 1) := by decide +kernel
theorem dX2_isOfKind_1 : decode cX2_isOfKind 1 = .ok (.ifCond .ne 17, 3) := by decide +kernel
theorem dX2_isOfKind_4 : decode cX2_isOfKind 4 = .ok (.aload_n 0, 1) := by decide +kernel
theorem dX2_isOfKind_5 : decode cX2_isOfKind 5 = .ok (.getfield 15, 3) := by decide +kernel
theorem dX2_isOfKind_8 : decode cX2_isOfKind 8 = .ok (.iconst 1, 1) := by decide +kernel
theorem dX2_isOfKind_9 : decode cX2_isOfKind 9 = .ok (.if_icmp .ne 7, 3) := by decide +kernel
theorem dX2_isOfKind_12 : decode cX2_isOfKind 12 = .ok (.iconst 1, 1) := by decide +kernel
theorem dX2_isOfKind_13 : decode cX2_isOfKind 13 = .ok (.goto 4, 3) := by decide +kernel
theorem dX2_isOfKind_16 : decode cX2_isOfKind 16 = .ok (.iconst 0, 1) := by decide +kernel
theorem dX2_isOfKind_17 : decode cX2_isOfKind 17 = .ok (.ireturn, 1) := by decide +kernel
theorem dX2_isOfKind_18 : decode cX2_isOfKind 18 = .ok (.aload_n 0, 1) := by decide +kernel
theorem dX2_isOfKind_19 : decode cX2_isOfKind 19 = .ok (.getfield 15, 3) := by decide +kernel
theorem dX2_isOfKind_22 : decode cX2_isOfKind 22 = .ok (.iconst 2, 1) := by decide +kernel
theorem dX2_isOfKind_23 : decode cX2_isOfKind 23 = .ok (.if_icmp .eq 5, 3) := by decide +kernel
theorem dX2_isOfKind_26 : decode cX2_isOfKind 26 = .ok (.iconst 0, 1) := by decide +kernel
theorem dX2_isOfKind_27 : decode cX2_isOfKind 27 = .ok (.ireturn, 1) := by decide +kernel
theorem dX2_isOfKind_28 : decode cX2_isOfKind 28 = .ok (.iload_n 1, 1) := by decide +kernel
theorem dX2_isOfKind_29 : decode cX2_isOfKind 29 = .ok (.tableswitch 56 1 3 #[27, 29, 34], 27) := by decide +kernel
theorem dX2_isOfKind_56 : decode cX2_isOfKind 56 = .ok (.iconst 1, 1) := by decide +kernel
theorem dX2_isOfKind_57 : decode cX2_isOfKind 57 = .ok (.ireturn, 1) := by decide +kernel
theorem dX2_isOfKind_58 : decode cX2_isOfKind 58 = .ok (.aload_n 0, 1) := by decide +kernel
theorem dX2_isOfKind_59 : decode cX2_isOfKind 59 = .ok (.invokevirtual 32, 3) := by decide +kernel
theorem dX2_isOfKind_62 : decode cX2_isOfKind 62 = .ok (.ireturn, 1) := by decide +kernel
theorem dX2_isOfKind_63 : decode cX2_isOfKind 63 = .ok (.aload_n 0, 1) := by decide +kernel
theorem dX2_isOfKind_64 : decode cX2_isOfKind 64 = .ok (.getfield 23, 3) := by decide +kernel
theorem dX2_isOfKind_67 : decode cX2_isOfKind 67 = .ok (.lconst 0, 1) := by decide +kernel
theorem dX2_isOfKind_68 : decode cX2_isOfKind 68 = .ok (.lcmp, 1) := by decide +kernel
theorem dX2_isOfKind_69 : decode cX2_isOfKind 69 = .ok (.ifCond .ne 14, 3) := by decide +kernel
theorem dX2_isOfKind_72 : decode cX2_isOfKind 72 = .ok (.aload_n 0, 1) := by decide +kernel
theorem dX2_isOfKind_73 : decode cX2_isOfKind 73 = .ok (.invokevirtual 32, 3) := by decide +kernel
theorem dX2_isOfKind_76 : decode cX2_isOfKind 76 = .ok (.ifCond .ne 7, 3) := by decide +kernel
theorem dX2_isOfKind_79 : decode cX2_isOfKind 79 = .ok (.iconst 1, 1) := by decide +kernel
theorem dX2_isOfKind_80 : decode cX2_isOfKind 80 = .ok (.goto 4, 3) := by decide +kernel
theorem dX2_isOfKind_83 : decode cX2_isOfKind 83 = .ok (.iconst 0, 1) := by decide +kernel
theorem dX2_isOfKind_84 : decode cX2_isOfKind 84 = .ok (.ireturn, 1) := by decide +kernel
theorem dX2_isOfKind_85 : decode cX2_isOfKind 85 = .ok (.iconst 0, 1) := by decide +kernel
theorem dX2_isOfKind_86 : decode cX2_isOfKind 86 = .ok (.ireturn, 1) := by decide +kernel
set_option maxRecDepth 20000 in
theorem ggX2_takenFor_J9_floorMod_f86c9 : GoodIn wsX2_takenFor wsJ9_floorMod_f86c9 := goodIn_r _ [8] (by decide +kernel) (by decide +kernel)
set_option maxRecDepth 20000 in
theorem gX2_takenFor_J9_floorMod_f86c9 : GoodIn wsX2_takenFor (va_wsS RX2 38 yJ9_floorMod_f86c9 wsJ9_floorMod_f86c9) := goodIn_app (goodIn_of _ (by decide +kernel)) ggX2_takenFor_J9_floorMod_f86c9
set_option maxRecDepth 20000 in
theorem ggX2_takenFor_X6_sizeOf : GoodIn wsX2_takenFor wsX6_sizeOf := goodIn_r _ [12, 13, 14, 15, 16, 17, 18, 19] (by decide +kernel) (by decide +kernel)
set_option maxRecDepth 20000 in
theorem gX2_takenFor_X6_sizeOf : GoodIn wsX2_takenFor (va_wsS RX2 44 yX6_sizeOf wsX6_sizeOf) := goodIn_app (goodIn_of _ (by decide +kernel)) ggX2_takenFor_X6_sizeOf
theorem dX2_takenFor_0 : decode cX2_takenFor 0 = .ok (.iload_n 1, 1) := by decide +kernel
theorem dX2_takenFor_1 : decode cX2_takenFor 1 = .ok (.lookupswitch 47 #[(0, 27), (1, 39)], 27) := by decide +kernel
theorem dX2_takenFor_28 : decode cX2_takenFor 28 = .ok (.aload_n 0, 1) := by decide +kernel
theorem dX2_takenFor_29 : decode cX2_takenFor 29 = .ok (.getfield 19, 3) := by decide +kernel
theorem dX2_takenFor_32 : decode cX2_takenFor 32 = .ok (.ldc2_w 36, 3) := by decide +kernel
theorem dX2_takenFor_35 : decode cX2_takenFor 35 = .ok (.invokestatic 38, 3) := by decide +kernel
theorem dX2_takenFor_38 : decode cX2_takenFor 38 = .ok (.l2i, 1) := by decide +kernel
theorem dX2_takenFor_39 : decode cX2_takenFor 39 = .ok (.ireturn, 1) := by decide +kernel
theorem dX2_takenFor_40 : decode cX2_takenFor 40 = .ok (.aload_n 0, 1) := by decide +kernel
theorem dX2_takenFor_41 : decode cX2_takenFor 41 = .ok (.getfield 23, 3) := by decide +kernel
theorem dX2_takenFor_44 : decode cX2_takenFor 44 = .ok (.invokestatic 44, 3) := by decide +kernel
theorem dX2_takenFor_47 : decode cX2_takenFor 47 = .ok (.ireturn, 1) := by decide +kernel
theorem dX2_takenFor_48 : decode cX2_takenFor 48 = .ok (.aload_n 0, 1) := by decide +kernel
theorem dX2_takenFor_49 : decode cX2_takenFor 49 = .ok (.getfield 26, 3) := by decide +kernel
theorem dX2_takenFor_52 : decode cX2_takenFor 52 = .ok (.ireturn, 1) := by decide +kernel
set_option maxRecDepth 20000 in
theorem ggX2_firstUnlike_X6_sizeOf : GoodIn wsX2_firstUnlike wsX6_sizeOf := goodIn_r _ [6, 7, 8, 9, 10, 11, 12, 13] (by decide +kernel) (by decide +kernel)
set_option maxRecDepth 20000 in
theorem gX2_firstUnlike_X6_sizeOf : GoodIn wsX2_firstUnlike (va_wsS RX2 44 yX6_sizeOf wsX6_sizeOf) := goodIn_app (goodIn_of _ (by decide +kernel)) ggX2_firstUnlike_X6_sizeOf
set_option maxRecDepth 20000 in
theorem ggX2_firstUnlike_X2_hasPlace : GoodIn wsX2_firstUnlike wsX2_hasPlace := goodIn_r _ [18, 1, 22, 23, 24, 25, 26, 27] (by decide +kernel) (by decide +kernel)
set_option maxRecDepth 20000 in
theorem gX2_firstUnlike_X2_hasPlace : GoodIn wsX2_firstUnlike (wsV RX2 50 RX2 yX2_hasPlace wsX2_hasPlace) := goodIn_app (goodIn_of _ (by decide +kernel)) ggX2_firstUnlike_X2_hasPlace
set_option maxRecDepth 20000 in
theorem ggX2_firstUnlike_X6_nth : GoodIn wsX2_firstUnlike wsX6_nth := goodIn_r _ [21, 7, 8, 9, 10, 11, 12, 13] (by decide +kernel) (by decide +kernel)
set_option maxRecDepth 20000 in
theorem gX2_firstUnlike_X6_nth : GoodIn wsX2_firstUnlike (va_wsS RX2 54 yX6_nth wsX6_nth) := goodIn_app (goodIn_of _ (by decide +kernel)) ggX2_firstUnlike_X6_nth
theorem dX2_firstUnlike_0 : decode cX2_firstUnlike 0 = .ok (.lload_n 1, 1) := by decide +kernel
theorem dX2_firstUnlike_1 : decode cX2_firstUnlike 1 = .ok (.invokestatic 44, 3) := by decide +kernel
theorem dX2_firstUnlike_4 : decode cX2_firstUnlike 4 = .ok (.istore_n 3, 1) := by decide +kernel
theorem dX2_firstUnlike_5 : decode cX2_firstUnlike 5 = .ok (.iconst 0, 1) := by decide +kernel
theorem dX2_firstUnlike_6 : decode cX2_firstUnlike 6 = .ok (.istore 4, 2) := by decide +kernel
theorem dX2_firstUnlike_8 : decode cX2_firstUnlike 8 = .ok (.iload 4, 2) := by decide +kernel
theorem dX2_firstUnlike_10 : decode cX2_firstUnlike 10 = .ok (.aload_n 0, 1) := by decide +kernel
theorem dX2_firstUnlike_11 : decode cX2_firstUnlike 11 = .ok (.getfield 29, 3) := by decide +kernel
theorem dX2_firstUnlike_14 : decode cX2_firstUnlike 14 = .ok (.if_icmp .lt 9, 3) := by decide +kernel
theorem dX2_firstUnlike_17 : decode cX2_firstUnlike 17 = .ok (.iload 4, 2) := by decide +kernel
theorem dX2_firstUnlike_19 : decode cX2_firstUnlike 19 = .ok (.iload_n 3, 1) := by decide +kernel
theorem dX2_firstUnlike_20 : decode cX2_firstUnlike 20 = .ok (.if_icmp .ge 43, 3) := by decide +kernel
theorem dX2_firstUnlike_23 : decode cX2_firstUnlike 23 = .ok (.iload 4, 2) := by decide +kernel
theorem dX2_firstUnlike_25 : decode cX2_firstUnlike 25 = .ok (.iload_n 3, 1) := by decide +kernel
theorem dX2_firstUnlike_26 : decode cX2_firstUnlike 26 = .ok (.if_icmp .ge 28, 3) := by decide +kernel
theorem dX2_firstUnlike_29 : decode cX2_firstUnlike 29 = .ok (.aload_n 0, 1) := by decide +kernel
theorem dX2_firstUnlike_30 : decode cX2_firstUnlike 30 = .ok (.iload 4, 2) := by decide +kernel
theorem dX2_firstUnlike_32 : decode cX2_firstUnlike 32 = .ok (.invokevirtual 50, 3) := by decide +kernel
theorem dX2_firstUnlike_35 : decode cX2_firstUnlike 35 = .ok (.ifCond .eq 19, 3) := by decide +kernel
theorem dX2_firstUnlike_38 : decode cX2_firstUnlike 38 = .ok (.aload_n 0, 1) := by decide +kernel
theorem dX2_firstUnlike_39 : decode cX2_firstUnlike 39 = .ok (.getfield 11, 3) := by decide +kernel
theorem dX2_firstUnlike_42 : decode cX2_firstUnlike 42 = .ok (.iload 4, 2) := by decide +kernel
theorem dX2_firstUnlike_44 : decode cX2_firstUnlike 44 = .ok (.iaload, 1) := by decide +kernel
theorem dX2_firstUnlike_45 : decode cX2_firstUnlike 45 = .ok (.lload_n 1, 1) := by decide +kernel
theorem dX2_firstUnlike_46 : decode cX2_firstUnlike 46 = .ok (.iload 4, 2) := by decide +kernel
theorem dX2_firstUnlike_48 : decode cX2_firstUnlike 48 = .ok (.invokestatic 54, 3) := by decide +kernel
theorem dX2_firstUnlike_51 : decode cX2_firstUnlike 51 = .ok (.if_icmp .eq 6, 3) := by decide +kernel
theorem dX2_firstUnlike_54 : decode cX2_firstUnlike 54 = .ok (.iload 4, 2) := by decide +kernel
theorem dX2_firstUnlike_56 : decode cX2_firstUnlike 56 = .ok (.ireturn, 1) := by decide +kernel
theorem dX2_firstUnlike_57 : decode cX2_firstUnlike 57 = .ok (.iinc 4 1, 3) := by decide +kernel
theorem dX2_firstUnlike_60 : decode cX2_firstUnlike 60 = .ok (.goto (-52), 3) := by decide +kernel
theorem dX2_firstUnlike_63 : decode cX2_firstUnlike 63 = .ok (.iconst (-1), 1) := by decide +kernel
theorem dX2_firstUnlike_64 : decode cX2_firstUnlike 64 = .ok (.ireturn, 1) := by decide +kernel
set_option maxRecDepth 20000 in
theorem ggX2_isFullTree_X6_sizeOf : GoodIn wsX2_isFullTree wsX6_sizeOf := goodIn_r _ [6, 7, 8, 9, 10, 11, 12, 13] (by decide +kernel) (by decide +kernel)
set_option maxRecDepth 20000 in
theorem gX2_isFullTree_X6_sizeOf : GoodIn wsX2_isFullTree (va_wsS RX2 44 yX6_sizeOf wsX6_sizeOf) := goodIn_app (goodIn_of _ (by decide +kernel)) ggX2_isFullTree_X6_sizeOf
theorem dX2_isFullTree_0 : decode cX2_isFullTree 0 = .ok (.aload_n 0, 1) := by decide +kernel
theorem dX2_isFullTree_1 : decode cX2_isFullTree 1 = .ok (.getfield 23, 3) := by decide +kernel
theorem dX2_isFullTree_4 : decode cX2_isFullTree 4 = .ok (.invokestatic 44, 3) := by decide +kernel
theorem dX2_isFullTree_7 : decode cX2_isFullTree 7 = .ok (.aload_n 0, 1) := by decide +kernel
theorem dX2_isFullTree_8 : decode cX2_isFullTree 8 = .ok (.getfield 26, 3) := by decide +kernel
theorem dX2_isFullTree_11 : decode cX2_isFullTree 11 = .ok (.iconst 3, 1) := by decide +kernel
theorem dX2_isFullTree_12 : decode cX2_isFullTree 12 = .ok (.isub, 1) := by decide +kernel
theorem dX2_isFullTree_13 : decode cX2_isFullTree 13 = .ok (.if_icmp .ne 7, 3) := by decide +kernel
theorem dX2_isFullTree_16 : decode cX2_isFullTree 16 = .ok (.iconst 1, 1) := by decide +kernel
theorem dX2_isFullTree_17 : decode cX2_isFullTree 17 = .ok (.goto 4, 3) := by decide +kernel
theorem dX2_isFullTree_20 : decode cX2_isFullTree 20 = .ok (.iconst 0, 1) := by decide +kernel
theorem dX2_isFullTree_21 : decode cX2_isFullTree 21 = .ok (.ireturn, 1) := by decide +kernel
theorem dX3_init_0 : decode cX3_init 0 = .ok (.aload_n 0, 1) := by decide +kernel
theorem dX3_init_1 : decode cX3_init 1 = .ok (.invokespecial 5, 3) := by decide +kernel
theorem dX3_init_4 : decode cX3_init 4 = .ok (.aload_n 0, 1) := by decide +kernel
theorem dX3_init_5 : decode cX3_init 5 = .ok (.sipush 1024, 3) := by decide +kernel
theorem dX3_init_8 : decode cX3_init 8 = .ok (.newarray .long, 2) := by decide +kernel
theorem dX3_init_10 : decode cX3_init 10 = .ok (.putfield 11, 3) := by decide +kernel
theorem dX3_init_13 : decode cX3_init 13 = .ok (.aload_n 0, 1) := by decide +kernel
theorem dX3_init_14 : decode cX3_init 14 = .ok (.sipush 1024, 3) := by decide +kernel
theorem dX3_init_17 : decode cX3_init 17 = .ok (.newarray .long, 2) := by decide +kernel
theorem dX3_init_19 : decode cX3_init 19 = .ok (.putfield 15, 3) := by decide +kernel
theorem dX3_init_22 : decode cX3_init 22 = .ok (.aload_n 0, 1) := by decide +kernel
theorem dX3_init_23 : decode cX3_init 23 = .ok (.sipush 1024, 3) := by decide +kernel
theorem dX3_init_26 : decode cX3_init 26 = .ok (.newarray .int, 2) := by decide +kernel
theorem dX3_init_28 : decode cX3_init 28 = .ok (.putfield 18, 3) := by decide +kernel
theorem dX3_init_31 : decode cX3_init 31 = .ok (.return_, 1) := by decide +kernel
theorem dX3_lineOf_0 : decode cX3_lineOf 0 = .ok (.iload_n 0, 1) := by decide +kernel
theorem dX3_lineOf_1 : decode cX3_lineOf 1 = .ok (.ifCond .ne 5, 3) := by decide +kernel
theorem dX3_lineOf_4 : decode cX3_lineOf 4 = .ok (.lconst 1, 1) := by decide +kernel
theorem dX3_lineOf_5 : decode cX3_lineOf 5 = .ok (.lreturn, 1) := by decide +kernel
theorem dX3_lineOf_6 : decode cX3_lineOf 6 = .ok (.iload_n 0, 1) := by decide +kernel
theorem dX3_lineOf_7 : decode cX3_lineOf 7 = .ok (.iconst 1, 1) := by decide +kernel
theorem dX3_lineOf_8 : decode cX3_lineOf 8 = .ok (.if_icmp .ne 9, 3) := by decide +kernel
theorem dX3_lineOf_11 : decode cX3_lineOf 11 = .ok (.ldc2_w 22, 3) := by decide +kernel
theorem dX3_lineOf_14 : decode cX3_lineOf 14 = .ok (.goto 6, 3) := by decide +kernel
theorem dX3_lineOf_17 : decode cX3_lineOf 17 = .ok (.ldc2_w 24, 3) := by decide +kernel
theorem dX3_lineOf_20 : decode cX3_lineOf 20 = .ok (.lreturn, 1) := by decide +kernel
theorem dX3_begin_0 : decode cX3_begin 0 = .ok (.aload_n 0, 1) := by decide +kernel
theorem dX3_begin_1 : decode cX3_begin 1 = .ok (.iconst 0, 1) := by decide +kernel
theorem dX3_begin_2 : decode cX3_begin 2 = .ok (.putfield 26, 3) := by decide +kernel
theorem dX3_begin_5 : decode cX3_begin 5 = .ok (.aload_n 0, 1) := by decide +kernel
theorem dX3_begin_6 : decode cX3_begin 6 = .ok (.iconst 0, 1) := by decide +kernel
theorem dX3_begin_7 : decode cX3_begin 7 = .ok (.putfield 30, 3) := by decide +kernel
theorem dX3_begin_10 : decode cX3_begin 10 = .ok (.aload_n 0, 1) := by decide +kernel
theorem dX3_begin_11 : decode cX3_begin 11 = .ok (.lconst 0, 1) := by decide +kernel
theorem dX3_begin_12 : decode cX3_begin 12 = .ok (.putfield 33, 3) := by decide +kernel
theorem dX3_begin_15 : decode cX3_begin 15 = .ok (.return_, 1) := by decide +kernel
theorem dX3_add_0 : decode cX3_add 0 = .ok (.aload_n 0, 1) := by decide +kernel
theorem dX3_add_1 : decode cX3_add 1 = .ok (.dup, 1) := by decide +kernel
theorem dX3_add_2 : decode cX3_add 2 = .ok (.getfield 26, 3) := by decide +kernel
theorem dX3_add_5 : decode cX3_add 5 = .ok (.iconst 1, 1) := by decide +kernel
theorem dX3_add_6 : decode cX3_add 6 = .ok (.iadd, 1) := by decide +kernel
theorem dX3_add_7 : decode cX3_add 7 = .ok (.putfield 26, 3) := by decide +kernel
theorem dX3_add_10 : decode cX3_add 10 = .ok (.aload_n 0, 1) := by decide +kernel
theorem dX3_add_11 : decode cX3_add 11 = .ok (.dup, 1) := by decide +kernel
theorem dX3_add_12 : decode cX3_add 12 = .ok (.getfield 30, 3) := by decide +kernel
theorem dX3_add_15 : decode cX3_add 15 = .ok (.iload_n 1, 1) := by decide +kernel
theorem dX3_add_16 : decode cX3_add 16 = .ok (.iadd, 1) := by decide +kernel
theorem dX3_add_17 : decode cX3_add 17 = .ok (.putfield 30, 3) := by decide +kernel
theorem dX3_add_20 : decode cX3_add 20 = .ok (.iload_n 1, 1) := by decide +kernel
theorem dX3_add_21 : decode cX3_add 21 = .ok (.ifCond .lt 23, 3) := by decide +kernel
theorem dX3_add_24 : decode cX3_add 24 = .ok (.iload_n 1, 1) := by decide +kernel
theorem dX3_add_25 : decode cX3_add 25 = .ok (.bipush 14, 2) := by decide +kernel
theorem dX3_add_27 : decode cX3_add 27 = .ok (.if_icmp .gt 17, 3) := by decide +kernel
theorem dX3_add_30 : decode cX3_add 30 = .ok (.aload_n 0, 1) := by decide +kernel
theorem dX3_add_31 : decode cX3_add 31 = .ok (.dup, 1) := by decide +kernel
theorem dX3_add_32 : decode cX3_add 32 = .ok (.getfield 33, 3) := by decide +kernel
theorem dX3_add_35 : decode cX3_add 35 = .ok (.lconst 1, 1) := by decide +kernel
theorem dX3_add_36 : decode cX3_add 36 = .ok (.iconst 4, 1) := by decide +kernel
theorem dX3_add_37 : decode cX3_add 37 = .ok (.iload_n 1, 1) := by decide +kernel
theorem dX3_add_38 : decode cX3_add 38 = .ok (.imul, 1) := by decide +kernel
theorem dX3_add_39 : decode cX3_add 39 = .ok (.lshl, 1) := by decide +kernel
theorem dX3_add_40 : decode cX3_add 40 = .ok (.ladd, 1) := by decide +kernel
theorem dX3_add_41 : decode cX3_add 41 = .ok (.putfield 33, 3) := by decide +kernel
theorem dX3_add_44 : decode cX3_add 44 = .ok (.return_, 1) := by decide +kernel
theorem dX3_keyFor_0 : decode cX3_keyFor 0 = .ok (.iconst 2, 1) := by decide +kernel
theorem dX3_keyFor_1 : decode cX3_keyFor 1 = .ok (.iload_n 1, 1) := by decide +kernel
theorem dX3_keyFor_2 : decode cX3_keyFor 2 = .ok (.imul, 1) := by decide +kernel
theorem dX3_keyFor_3 : decode cX3_keyFor 3 = .ok (.iconst 2, 1) := by decide +kernel
theorem dX3_keyFor_4 : decode cX3_keyFor 4 = .ok (.isub, 1) := by decide +kernel
theorem dX3_keyFor_5 : decode cX3_keyFor 5 = .ok (.aload_n 0, 1) := by decide +kernel
theorem dX3_keyFor_6 : decode cX3_keyFor 6 = .ok (.getfield 26, 3) := by decide +kernel
theorem dX3_keyFor_9 : decode cX3_keyFor 9 = .ok (.iadd, 1) := by decide +kernel
theorem dX3_keyFor_10 : decode cX3_keyFor 10 = .ok (.ifCond .le 20, 3) := by decide +kernel
theorem dX3_keyFor_13 : decode cX3_keyFor 13 = .ok (.aload_n 0, 1) := by decide +kernel
theorem dX3_keyFor_14 : decode cX3_keyFor 14 = .ok (.getfield 30, 3) := by decide +kernel
theorem dX3_keyFor_17 : decode cX3_keyFor 17 = .ok (.iconst 3, 1) := by decide +kernel
theorem dX3_keyFor_18 : decode cX3_keyFor 18 = .ok (.iload_n 1, 1) := by decide +kernel
theorem dX3_keyFor_19 : decode cX3_keyFor 19 = .ok (.imul, 1) := by decide +kernel
theorem dX3_keyFor_20 : decode cX3_keyFor 20 = .ok (.iconst 3, 1) := by decide +kernel
theorem dX3_keyFor_21 : decode cX3_keyFor 21 = .ok (.isub, 1) := by decide +kernel
theorem dX3_keyFor_22 : decode cX3_keyFor 22 = .ok (.aload_n 0, 1) := by decide +kernel
theorem dX3_keyFor_23 : decode cX3_keyFor 23 = .ok (.getfield 26, 3) := by decide +kernel
theorem dX3_keyFor_26 : decode cX3_keyFor 26 = .ok (.iadd, 1) := by decide +kernel
theorem dX3_keyFor_27 : decode cX3_keyFor 27 = .ok (.if_icmp .eq 5, 3) := by decide +kernel
theorem dX3_keyFor_30 : decode cX3_keyFor 30 = .ok (.lconst 0, 1) := by decide +kernel
theorem dX3_keyFor_31 : decode cX3_keyFor 31 = .ok (.lreturn, 1) := by decide +kernel
theorem dX3_keyFor_32 : decode cX3_keyFor 32 = .ok (.iload_n 1, 1) := by decide +kernel
theorem dX3_keyFor_33 : decode cX3_keyFor 33 = .ok (.i2l, 1) := by decide +kernel
theorem dX3_keyFor_34 : decode cX3_keyFor 34 = .ok (.bipush 60, 2) := by decide +kernel
theorem dX3_keyFor_36 : decode cX3_keyFor 36 = .ok (.lshl, 1) := by decide +kernel
theorem dX3_keyFor_37 : decode cX3_keyFor 37 = .ok (.aload_n 0, 1) := by decide +kernel
theorem dX3_keyFor_38 : decode cX3_keyFor 38 = .ok (.getfield 33, 3) := by decide +kernel
theorem dX3_keyFor_41 : decode cX3_keyFor 41 = .ok (.ladd, 1) := by decide +kernel
theorem dX3_keyFor_42 : decode cX3_keyFor 42 = .ok (.lreturn, 1) := by decide +kernel
set_option maxRecDepth 20000 in
theorem ggX3_ruleOf_X3_baseOf : GoodIn wsX3_ruleOf wsX3_baseOf := goodIn_r _ [4, 5, 6, 7, 8, 9, 10, 11, 12] (by decide +kernel) (by decide +kernel)
set_option maxRecDepth 20000 in
theorem gX3_ruleOf_X3_baseOf : GoodIn wsX3_ruleOf (va_wsS RX3 37 yX3_baseOf wsX3_baseOf) := goodIn_app (goodIn_of _ (by decide +kernel)) ggX3_ruleOf_X3_baseOf
set_option maxRecDepth 20000 in
theorem ggX3_ruleOf_X3_timesThere : GoodIn wsX3_ruleOf wsX3_timesThere := goodIn_r _ [15, 16] (by decide +kernel) (by decide +kernel)
set_option maxRecDepth 20000 in
theorem gX3_ruleOf_X3_timesThere : GoodIn wsX3_ruleOf (va_wsS RX3 41 yX3_timesThere wsX3_timesThere) := goodIn_app (goodIn_of _ (by decide +kernel)) ggX3_ruleOf_X3_timesThere
theorem dX3_ruleOf_0 : decode cX3_ruleOf 0 = .ok (.lload_n 0, 1) := by decide +kernel
theorem dX3_ruleOf_1 : decode cX3_ruleOf 1 = .ok (.lconst 0, 1) := by decide +kernel
theorem dX3_ruleOf_2 : decode cX3_ruleOf 2 = .ok (.lcmp, 1) := by decide +kernel
theorem dX3_ruleOf_3 : decode cX3_ruleOf 3 = .ok (.ifCond .ne 5, 3) := by decide +kernel
theorem dX3_ruleOf_6 : decode cX3_ruleOf 6 = .ok (.iconst 0, 1) := by decide +kernel
theorem dX3_ruleOf_7 : decode cX3_ruleOf 7 = .ok (.ireturn, 1) := by decide +kernel
theorem dX3_ruleOf_8 : decode cX3_ruleOf 8 = .ok (.lload_n 0, 1) := by decide +kernel
theorem dX3_ruleOf_9 : decode cX3_ruleOf 9 = .ok (.invokestatic 37, 3) := by decide +kernel
theorem dX3_ruleOf_12 : decode cX3_ruleOf 12 = .ok (.lconst 0, 1) := by decide +kernel
theorem dX3_ruleOf_13 : decode cX3_ruleOf 13 = .ok (.lcmp, 1) := by decide +kernel
theorem dX3_ruleOf_14 : decode cX3_ruleOf 14 = .ok (.ifCond .eq 5, 3) := by decide +kernel
theorem dX3_ruleOf_17 : decode cX3_ruleOf 17 = .ok (.iconst 1, 1) := by decide +kernel
theorem dX3_ruleOf_18 : decode cX3_ruleOf 18 = .ok (.ireturn, 1) := by decide +kernel
theorem dX3_ruleOf_19 : decode cX3_ruleOf 19 = .ok (.lload_n 0, 1) := by decide +kernel
theorem dX3_ruleOf_20 : decode cX3_ruleOf 20 = .ok (.iconst 0, 1) := by decide +kernel
theorem dX3_ruleOf_21 : decode cX3_ruleOf 21 = .ok (.invokestatic 41, 3) := by decide +kernel
theorem dX3_ruleOf_24 : decode cX3_ruleOf 24 = .ok (.ifCond .le 7, 3) := by decide +kernel
theorem dX3_ruleOf_27 : decode cX3_ruleOf 27 = .ok (.iconst 2, 1) := by decide +kernel
theorem dX3_ruleOf_28 : decode cX3_ruleOf 28 = .ok (.goto 4, 3) := by decide +kernel
theorem dX3_ruleOf_31 : decode cX3_ruleOf 31 = .ok (.iconst 3, 1) := by decide +kernel
theorem dX3_ruleOf_32 : decode cX3_ruleOf 32 = .ok (.ireturn, 1) := by decide +kernel
theorem dX3_baseOf_0 : decode cX3_baseOf 0 = .ok (.lload_n 0, 1) := by decide +kernel
theorem dX3_baseOf_1 : decode cX3_baseOf 1 = .ok (.ldc2_w 45, 3) := by decide +kernel
theorem dX3_baseOf_4 : decode cX3_baseOf 4 = .ok (.lcmp, 1) := by decide +kernel
theorem dX3_baseOf_5 : decode cX3_baseOf 5 = .ok (.ifCond .eq 11, 3) := by decide +kernel
theorem dX3_baseOf_8 : decode cX3_baseOf 8 = .ok (.lload_n 0, 1) := by decide +kernel
theorem dX3_baseOf_9 : decode cX3_baseOf 9 = .ok (.ldc2_w 47, 3) := by decide +kernel
theorem dX3_baseOf_12 : decode cX3_baseOf 12 = .ok (.lcmp, 1) := by decide +kernel
theorem dX3_baseOf_13 : decode cX3_baseOf 13 = .ok (.ifCond .ne 5, 3) := by decide +kernel
theorem dX3_baseOf_16 : decode cX3_baseOf 16 = .ok (.lconst 1, 1) := by decide +kernel
theorem dX3_baseOf_17 : decode cX3_baseOf 17 = .ok (.lreturn, 1) := by decide +kernel
theorem dX3_baseOf_18 : decode cX3_baseOf 18 = .ok (.lload_n 0, 1) := by decide +kernel
theorem dX3_baseOf_19 : decode cX3_baseOf 19 = .ok (.ldc2_w 49, 3) := by decide +kernel
theorem dX3_baseOf_22 : decode cX3_baseOf 22 = .ok (.lcmp, 1) := by decide +kernel
theorem dX3_baseOf_23 : decode cX3_baseOf 23 = .ok (.ifCond .ne 7, 3) := by decide +kernel
theorem dX3_baseOf_26 : decode cX3_baseOf 26 = .ok (.ldc2_w 51, 3) := by decide +kernel
theorem dX3_baseOf_29 : decode cX3_baseOf 29 = .ok (.lreturn, 1) := by decide +kernel
theorem dX3_baseOf_30 : decode cX3_baseOf 30 = .ok (.lload_n 0, 1) := by decide +kernel
theorem dX3_baseOf_31 : decode cX3_baseOf 31 = .ok (.ldc2_w 53, 3) := by decide +kernel
theorem dX3_baseOf_34 : decode cX3_baseOf 34 = .ok (.lcmp, 1) := by decide +kernel
theorem dX3_baseOf_35 : decode cX3_baseOf 35 = .ok (.ifCond .ne 7, 3) := by decide +kernel
theorem dX3_baseOf_38 : decode cX3_baseOf 38 = .ok (.ldc2_w 55, 3) := by decide +kernel
theorem dX3_baseOf_41 : decode cX3_baseOf 41 = .ok (.lreturn, 1) := by decide +kernel
theorem dX3_baseOf_42 : decode cX3_baseOf 42 = .ok (.lload_n 0, 1) := by decide +kernel
theorem dX3_baseOf_43 : decode cX3_baseOf 43 = .ok (.ldc2_w 57, 3) := by decide +kernel
theorem dX3_baseOf_46 : decode cX3_baseOf 46 = .ok (.lcmp, 1) := by decide +kernel
theorem dX3_baseOf_47 : decode cX3_baseOf 47 = .ok (.ifCond .ne 9, 3) := by decide +kernel
theorem dX3_baseOf_50 : decode cX3_baseOf 50 = .ok (.ldc2_w 59, 3) := by decide +kernel
theorem dX3_baseOf_53 : decode cX3_baseOf 53 = .ok (.goto 4, 3) := by decide +kernel
theorem dX3_baseOf_56 : decode cX3_baseOf 56 = .ok (.lconst 0, 1) := by decide +kernel
theorem dX3_baseOf_57 : decode cX3_baseOf 57 = .ok (.lreturn, 1) := by decide +kernel
theorem dX3_timesThere_0 : decode cX3_timesThere 0 = .ok (.lload_n 0, 1) := by decide +kernel
theorem dX3_timesThere_1 : decode cX3_timesThere 1 = .ok (.iconst 4, 1) := by decide +kernel
theorem dX3_timesThere_2 : decode cX3_timesThere 2 = .ok (.iload_n 2, 1) := by decide +kernel
theorem dX3_timesThere_3 : decode cX3_timesThere 3 = .ok (.imul, 1) := by decide +kernel
theorem dX3_timesThere_4 : decode cX3_timesThere 4 = .ok (.lushr, 1) := by decide +kernel
theorem dX3_timesThere_5 : decode cX3_timesThere 5 = .ok (.ldc2_w 61, 3) := by decide +kernel
theorem dX3_timesThere_8 : decode cX3_timesThere 8 = .ok (.land, 1) := by decide +kernel
theorem dX3_timesThere_9 : decode cX3_timesThere 9 = .ok (.l2i, 1) := by decide +kernel
theorem dX3_timesThere_10 : decode cX3_timesThere 10 = .ok (.ireturn, 1) := by decide +kernel
set_option maxRecDepth 20000 in
theorem ggX3_nextKey_X3_timesThere : GoodIn wsX3_nextKey wsX3_timesThere := goodIn_r _ [4, 5] (by decide +kernel) (by decide +kernel)
set_option maxRecDepth 20000 in
theorem gX3_nextKey_X3_timesThere : GoodIn wsX3_nextKey (va_wsS RX3 41 yX3_timesThere wsX3_timesThere) := goodIn_app (goodIn_of _ (by decide +kernel)) ggX3_nextKey_X3_timesThere
theorem dX3_nextKey_0 : decode cX3_nextKey 0 = .ok (.lconst 1, 1) := by decide +kernel
theorem dX3_nextKey_1 : decode cX3_nextKey 1 = .ok (.iconst 4, 1) := by decide +kernel
theorem dX3_nextKey_2 : decode cX3_nextKey 2 = .ok (.iload_n 3, 1) := by decide +kernel
theorem dX3_nextKey_3 : decode cX3_nextKey 3 = .ok (.imul, 1) := by decide +kernel
theorem dX3_nextKey_4 : decode cX3_nextKey 4 = .ok (.lshl, 1) := by decide +kernel
theorem dX3_nextKey_5 : decode cX3_nextKey 5 = .ok (.lstore 4, 2) := by decide +kernel
theorem dX3_nextKey_7 : decode cX3_nextKey 7 = .ok (.iload_n 2, 1) := by decide +kernel
theorem dX3_nextKey_8 : decode cX3_nextKey 8 = .ok (.iconst 2, 1) := by decide +kernel
theorem dX3_nextKey_9 : decode cX3_nextKey 9 = .ok (.if_icmp .ne 23, 3) := by decide +kernel
theorem dX3_nextKey_12 : decode cX3_nextKey 12 = .ok (.lload_n 0, 1) := by decide +kernel
theorem dX3_nextKey_13 : decode cX3_nextKey 13 = .ok (.iload_n 3, 1) := by decide +kernel
theorem dX3_nextKey_14 : decode cX3_nextKey 14 = .ok (.invokestatic 41, 3) := by decide +kernel
theorem dX3_nextKey_17 : decode cX3_nextKey 17 = .ok (.ifCond .le 15, 3) := by decide +kernel
theorem dX3_nextKey_20 : decode cX3_nextKey 20 = .ok (.lload_n 0, 1) := by decide +kernel
theorem dX3_nextKey_21 : decode cX3_nextKey 21 = .ok (.lconst 1, 1) := by decide +kernel
theorem dX3_nextKey_22 : decode cX3_nextKey 22 = .ok (.lsub, 1) := by decide +kernel
theorem dX3_nextKey_23 : decode cX3_nextKey 23 = .ok (.lload 4, 2) := by decide +kernel
theorem dX3_nextKey_25 : decode cX3_nextKey 25 = .ok (.lsub, 1) := by decide +kernel
theorem dX3_nextKey_26 : decode cX3_nextKey 26 = .ok (.lload 4, 2) := by decide +kernel
theorem dX3_nextKey_28 : decode cX3_nextKey 28 = .ok (.iconst 4, 1) := by decide +kernel
theorem dX3_nextKey_29 : decode cX3_nextKey 29 = .ok (.lushr, 1) := by decide +kernel
theorem dX3_nextKey_30 : decode cX3_nextKey 30 = .ok (.ladd, 1) := by decide +kernel
theorem dX3_nextKey_31 : decode cX3_nextKey 31 = .ok (.lreturn, 1) := by decide +kernel
theorem dX3_nextKey_32 : decode cX3_nextKey 32 = .ok (.iload_n 2, 1) := by decide +kernel
theorem dX3_nextKey_33 : decode cX3_nextKey 33 = .ok (.iconst 3, 1) := by decide +kernel
theorem dX3_nextKey_34 : decode cX3_nextKey 34 = .ok (.if_icmp .ne 15, 3) := by decide +kernel
theorem dX3_nextKey_37 : decode cX3_nextKey 37 = .ok (.iload_n 3, 1) := by decide +kernel
theorem dX3_nextKey_38 : decode cX3_nextKey 38 = .ok (.iconst 1, 1) := by decide +kernel
theorem dX3_nextKey_39 : decode cX3_nextKey 39 = .ok (.if_icmp .ne 10, 3) := by decide +kernel
theorem dX3_nextKey_42 : decode cX3_nextKey 42 = .ok (.lload_n 0, 1) := by decide +kernel
theorem dX3_nextKey_43 : decode cX3_nextKey 43 = .ok (.lload 4, 2) := by decide +kernel
theorem dX3_nextKey_45 : decode cX3_nextKey 45 = .ok (.lsub, 1) := by decide +kernel
theorem dX3_nextKey_46 : decode cX3_nextKey 46 = .ok (.goto 4, 3) := by decide +kernel
theorem dX3_nextKey_49 : decode cX3_nextKey 49 = .ok (.lconst 0, 1) := by decide +kernel
theorem dX3_nextKey_50 : decode cX3_nextKey 50 = .ok (.lreturn, 1) := by decide +kernel
set_option maxRecDepth 20000 in
theorem ggX3_weightOf_X3_timesThere : GoodIn wsX3_weightOf wsX3_timesThere := goodIn_r _ [5, 6] (by decide +kernel) (by decide +kernel)
set_option maxRecDepth 20000 in
theorem gX3_weightOf_X3_timesThere : GoodIn wsX3_weightOf (va_wsS RX3 41 yX3_timesThere wsX3_timesThere) := goodIn_app (goodIn_of _ (by decide +kernel)) ggX3_weightOf_X3_timesThere
theorem dX3_weightOf_0 : decode cX3_weightOf 0 = .ok (.iload_n 2, 1) := by decide +kernel
theorem dX3_weightOf_1 : decode cX3_weightOf 1 = .ok (.iconst 2, 1) := by decide +kernel
theorem dX3_weightOf_2 : decode cX3_weightOf 2 = .ok (.if_icmp .ne 10, 3) := by decide +kernel
theorem dX3_weightOf_5 : decode cX3_weightOf 5 = .ok (.lload_n 0, 1) := by decide +kernel
theorem dX3_weightOf_6 : decode cX3_weightOf 6 = .ok (.iload_n 3, 1) := by decide +kernel
theorem dX3_weightOf_7 : decode cX3_weightOf 7 = .ok (.invokestatic 41, 3) := by decide +kernel
theorem dX3_weightOf_10 : decode cX3_weightOf 10 = .ok (.i2l, 1) := by decide +kernel
theorem dX3_weightOf_11 : decode cX3_weightOf 11 = .ok (.lreturn, 1) := by decide +kernel
theorem dX3_weightOf_12 : decode cX3_weightOf 12 = .ok (.iconst 0, 1) := by decide +kernel
theorem dX3_weightOf_13 : decode cX3_weightOf 13 = .ok (.istore 4, 2) := by decide +kernel
theorem dX3_weightOf_15 : decode cX3_weightOf 15 = .ok (.iconst 0, 1) := by decide +kernel
theorem dX3_weightOf_16 : decode cX3_weightOf 16 = .ok (.istore 5, 2) := by decide +kernel
theorem dX3_weightOf_18 : decode cX3_weightOf 18 = .ok (.iload 5, 2) := by decide +kernel
theorem dX3_weightOf_20 : decode cX3_weightOf 20 = .ok (.bipush 14, 2) := by decide +kernel
theorem dX3_weightOf_22 : decode cX3_weightOf 22 = .ok (.if_icmp .gt 20, 3) := by decide +kernel
theorem dX3_weightOf_25 : decode cX3_weightOf 25 = .ok (.iload 4, 2) := by decide +kernel
theorem dX3_weightOf_27 : decode cX3_weightOf 27 = .ok (.lload_n 0, 1) := by decide +kernel
theorem dX3_weightOf_28 : decode cX3_weightOf 28 = .ok (.iload 5, 2) := by decide +kernel
theorem dX3_weightOf_30 : decode cX3_weightOf 30 = .ok (.invokestatic 41, 3) := by decide +kernel
theorem dX3_weightOf_33 : decode cX3_weightOf 33 = .ok (.iadd, 1) := by decide +kernel
theorem dX3_weightOf_34 : decode cX3_weightOf 34 = .ok (.istore 4, 2) := by decide +kernel
theorem dX3_weightOf_36 : decode cX3_weightOf 36 = .ok (.iinc 5 1, 3) := by decide +kernel
theorem dX3_weightOf_39 : decode cX3_weightOf 39 = .ok (.goto (-21), 3) := by decide +kernel
theorem dX3_weightOf_42 : decode cX3_weightOf 42 = .ok (.ldc2_w 63, 3) := by decide +kernel
theorem dX3_weightOf_45 : decode cX3_weightOf 45 = .ok (.lload_n 0, 1) := by decide +kernel
theorem dX3_weightOf_46 : decode cX3_weightOf 46 = .ok (.bipush 60, 2) := by decide +kernel
theorem dX3_weightOf_48 : decode cX3_weightOf 48 = .ok (.lushr, 1) := by decide +kernel
theorem dX3_weightOf_49 : decode cX3_weightOf 49 = .ok (.lmul, 1) := by decide +kernel
theorem dX3_weightOf_50 : decode cX3_weightOf 50 = .ok (.ldc2_w 63, 3) := by decide +kernel
theorem dX3_weightOf_53 : decode cX3_weightOf 53 = .ok (.lsub, 1) := by decide +kernel
theorem dX3_weightOf_54 : decode cX3_weightOf 54 = .ok (.iload 4, 2) := by decide +kernel
theorem dX3_weightOf_56 : decode cX3_weightOf 56 = .ok (.i2l, 1) := by decide +kernel
theorem dX3_weightOf_57 : decode cX3_weightOf 57 = .ok (.ladd, 1) := by decide +kernel
theorem dX3_weightOf_58 : decode cX3_weightOf 58 = .ok (.lconst 1, 1) := by decide +kernel
theorem dX3_weightOf_59 : decode cX3_weightOf 59 = .ok (.lsub, 1) := by decide +kernel
theorem dX3_weightOf_60 : decode cX3_weightOf 60 = .ok (.lreturn, 1) := by decide +kernel
set_option maxRecDepth 20000 in
theorem ggX3_aboveOf_X3_workOut : GoodIn wsX3_aboveOf wsX3_workOut := goodIn_r _ [5, 6, 7, 8, 9, 10, 4, 11, 12, 13, 14, 15, 16, 17, 18, 19, 20, 21, 22, 23, 24, 25, 26, 27, 28, 29, 30, 31, 32, 33, 34, 35, 36, 37, 1, 2, 3, 38, 39, 40, 41, 42, 43, 44, 45, 46, 47, 48] (by decide +kernel) (by decide +kernel)
set_option maxRecDepth 20000 in
theorem gX3_aboveOf_X3_workOut : GoodIn wsX3_aboveOf (wsV RX3 65 RX3 yX3_workOut wsX3_workOut) := goodIn_app (goodIn_of _ (by decide +kernel)) ggX3_aboveOf_X3_workOut
theorem dX3_aboveOf_0 : decode cX3_aboveOf 0 = .ok (.aload_n 0, 1) := by decide +kernel
theorem dX3_aboveOf_1 : decode cX3_aboveOf 1 = .ok (.lload_n 1, 1) := by decide +kernel
theorem dX3_aboveOf_2 : decode cX3_aboveOf 2 = .ok (.iconst 0, 1) := by decide +kernel
theorem dX3_aboveOf_3 : decode cX3_aboveOf 3 = .ok (.invokevirtual 65, 3) := by decide +kernel
theorem dX3_aboveOf_6 : decode cX3_aboveOf 6 = .ok (.lreturn, 1) := by decide +kernel
set_option maxRecDepth 20000 in
theorem ggX3_workOut_X3_slotOf : GoodIn wsX3_workOut wsX3_slotOf := goodIn_r _ [7, 8, 1, 41, 42, 43, 44, 45, 46, 47] (by decide +kernel) (by decide +kernel)
set_option maxRecDepth 20000 in
theorem gX3_workOut_X3_slotOf : GoodIn wsX3_workOut (wsV RX3 69 RX3 yX3_slotOf wsX3_slotOf) := goodIn_app (goodIn_of _ (by decide +kernel)) ggX3_workOut_X3_slotOf
set_option maxRecDepth 20000 in
theorem ggX3_workOut_X3_ruleOf : GoodIn wsX3_workOut wsX3_ruleOf := goodIn_r _ [11, 12, 13, 6, 14, 15, 16, 17, 18, 19, 20, 21, 22, 23, 24, 25, 26] (by decide +kernel) (by decide +kernel)
set_option maxRecDepth 20000 in
theorem gX3_workOut_X3_ruleOf : GoodIn wsX3_workOut (va_wsS RX3 73 yX3_ruleOf wsX3_ruleOf) := goodIn_app (goodIn_of _ (by decide +kernel)) ggX3_workOut_X3_ruleOf
set_option maxRecDepth 20000 in
theorem ggX3_workOut_X3_baseOf : GoodIn wsX3_workOut wsX3_baseOf := goodIn_r _ [14, 15, 16, 17, 18, 19, 20, 21, 22] (by decide +kernel) (by decide +kernel)
set_option maxRecDepth 20000 in
theorem gX3_workOut_X3_baseOf : GoodIn wsX3_workOut (va_wsS RX3 37 yX3_baseOf wsX3_baseOf) := goodIn_app (goodIn_of _ (by decide +kernel)) ggX3_workOut_X3_baseOf
set_option maxRecDepth 20000 in
theorem ggX3_workOut_X3_nextKey : GoodIn wsX3_workOut wsX3_nextKey := goodIn_r _ [29, 23, 24, 6, 25, 26] (by decide +kernel) (by decide +kernel)
set_option maxRecDepth 20000 in
theorem gX3_workOut_X3_nextKey : GoodIn wsX3_workOut (va_wsS RX3 76 yX3_nextKey wsX3_nextKey) := goodIn_app (goodIn_of _ (by decide +kernel)) ggX3_workOut_X3_nextKey
set_option maxRecDepth 20000 in
theorem ggX3_workOut_X3_weightOf : GoodIn wsX3_workOut wsX3_weightOf := goodIn_r _ [32, 33, 23, 24, 6, 25, 26] (by decide +kernel) (by decide +kernel)
set_option maxRecDepth 20000 in
theorem gX3_workOut_X3_weightOf : GoodIn wsX3_workOut (va_wsS RX3 80 yX3_weightOf wsX3_weightOf) := goodIn_app (goodIn_of _ (by decide +kernel)) ggX3_workOut_X3_weightOf
set_option maxRecDepth 20000 in
theorem ggX3_workOut_X3_workOut : GoodIn wsX3_workOut wsX3_workOut := goodIn_r _ [0, 1, 2, 3, 4, 5, 6, 7, 8, 9, 10, 11, 12, 13, 14, 15, 16, 17, 18, 19, 20, 21, 22, 23, 24, 25, 26, 27, 28, 29, 30, 31, 32, 33, 34, 35, 36, 37, 38, 39, 40, 41, 42, 43, 44, 45, 46, 47] (by decide +kernel) (by decide +kernel)
set_option maxRecDepth 20000 in
theorem gX3_workOut_X3_workOut : GoodIn wsX3_workOut (wsV RX3 65 RX3 yX3_workOut wsX3_workOut) := goodIn_app (goodIn_of _ (by decide +kernel)) ggX3_workOut_X3_workOut
set_option maxRecDepth 20000 in
theorem ggX3_workOut_X3_keep : GoodIn wsX3_workOut wsX3_keep := goodIn_r _ [40, 1, 2, 3, 4, 5, 6, 7, 8, 41, 42, 43, 44, 45, 46, 47] (by decide +kernel) (by decide +kernel)
set_option maxRecDepth 20000 in
theorem gX3_workOut_X3_keep : GoodIn wsX3_workOut (wsV RX3 83 RX3 yX3_keep wsX3_keep) := goodIn_app (goodIn_of _ (by decide +kernel)) ggX3_workOut_X3_keep
theorem dX3_workOut_0 : decode cX3_workOut 0 = .ok (.lload_n 1, 1) := by decide +kernel
theorem dX3_workOut_1 : decode cX3_workOut 1 = .ok (.lconst 0, 1) := by decide +kernel
theorem dX3_workOut_2 : decode cX3_workOut 2 = .ok (.lcmp, 1) := by decide +kernel
theorem dX3_workOut_3 : decode cX3_workOut 3 = .ok (.ifCond .eq 9, 3) := by decide +kernel
theorem dX3_workOut_6 : decode cX3_workOut 6 = .ok (.iload_n 3, 1) := by decide +kernel
theorem dX3_workOut_7 : decode cX3_workOut 7 = .ok (.bipush 16, 2) := by decide +kernel
theorem dX3_workOut_9 : decode cX3_workOut 9 = .ok (.if_icmp .le 5, 3) := by decide +kernel
theorem dX3_workOut_12 : decode cX3_workOut 12 = .ok (.lconst 0, 1) := by decide +kernel
theorem dX3_workOut_13 : decode cX3_workOut 13 = .ok (.lreturn, 1) := by decide +kernel
theorem dX3_workOut_14 : decode cX3_workOut 14 = .ok (.aload_n 0, 1) := by decide +kernel
theorem dX3_workOut_15 : decode cX3_workOut 15 = .ok (.lload_n 1, 1) := by decide +kernel
theorem dX3_workOut_16 : decode cX3_workOut 16 = .ok (.invokevirtual 69, 3) := by decide +kernel
theorem dX3_workOut_19 : decode cX3_workOut 19 = .ok (.istore 4, 2) := by decide +kernel
theorem dX3_workOut_21 : decode cX3_workOut 21 = .ok (.iload 4, 2) := by decide +kernel
theorem dX3_workOut_23 : decode cX3_workOut 23 = .ok (.iconst (-1), 1) := by decide +kernel
theorem dX3_workOut_24 : decode cX3_workOut 24 = .ok (.if_icmp .eq 23, 3) := by decide +kernel
theorem dX3_workOut_27 : decode cX3_workOut 27 = .ok (.aload_n 0, 1) := by decide +kernel
theorem dX3_workOut_28 : decode cX3_workOut 28 = .ok (.getfield 11, 3) := by decide +kernel
theorem dX3_workOut_31 : decode cX3_workOut 31 = .ok (.iload 4, 2) := by decide +kernel
theorem dX3_workOut_33 : decode cX3_workOut 33 = .ok (.laload, 1) := by decide +kernel
theorem dX3_workOut_34 : decode cX3_workOut 34 = .ok (.lload_n 1, 1) := by decide +kernel
theorem dX3_workOut_35 : decode cX3_workOut 35 = .ok (.lcmp, 1) := by decide +kernel
theorem dX3_workOut_36 : decode cX3_workOut 36 = .ok (.ifCond .ne 11, 3) := by decide +kernel
theorem dX3_workOut_39 : decode cX3_workOut 39 = .ok (.aload_n 0, 1) := by decide +kernel
theorem dX3_workOut_40 : decode cX3_workOut 40 = .ok (.getfield 15, 3) := by decide +kernel
theorem dX3_workOut_43 : decode cX3_workOut 43 = .ok (.iload 4, 2) := by decide +kernel
theorem dX3_workOut_45 : decode cX3_workOut 45 = .ok (.laload, 1) := by decide +kernel
theorem dX3_workOut_46 : decode cX3_workOut 46 = .ok (.lreturn, 1) := by decide +kernel
theorem dX3_workOut_47 : decode cX3_workOut 47 = .ok (.lload_n 1, 1) := by decide +kernel
theorem dX3_workOut_48 : decode cX3_workOut 48 = .ok (.invokestatic 73, 3) := by decide +kernel
theorem dX3_workOut_51 : decode cX3_workOut 51 = .ok (.istore 5, 2) := by decide +kernel
theorem dX3_workOut_53 : decode cX3_workOut 53 = .ok (.lload_n 1, 1) := by decide +kernel
theorem dX3_workOut_54 : decode cX3_workOut 54 = .ok (.invokestatic 37, 3) := by decide +kernel
theorem dX3_workOut_57 : decode cX3_workOut 57 = .ok (.lstore 6, 2) := by decide +kernel
theorem dX3_workOut_59 : decode cX3_workOut 59 = .ok (.iconst 1, 1) := by decide +kernel
theorem dX3_workOut_60 : decode cX3_workOut 60 = .ok (.istore 8, 2) := by decide +kernel
theorem dX3_workOut_62 : decode cX3_workOut 62 = .ok (.iload 8, 2) := by decide +kernel
theorem dX3_workOut_64 : decode cX3_workOut 64 = .ok (.bipush 14, 2) := by decide +kernel
theorem dX3_workOut_66 : decode cX3_workOut 66 = .ok (.if_icmp .gt 49, 3) := by decide +kernel
theorem dX3_workOut_69 : decode cX3_workOut 69 = .ok (.lload_n 1, 1) := by decide +kernel
theorem dX3_workOut_70 : decode cX3_workOut 70 = .ok (.iload 5, 2) := by decide +kernel
theorem dX3_workOut_72 : decode cX3_workOut 72 = .ok (.iload 8, 2) := by decide +kernel
theorem dX3_workOut_74 : decode cX3_workOut 74 = .ok (.invokestatic 76, 3) := by decide +kernel
theorem dX3_workOut_77 : decode cX3_workOut 77 = .ok (.lstore 9, 2) := by decide +kernel
theorem dX3_workOut_79 : decode cX3_workOut 79 = .ok (.lload 9, 2) := by decide +kernel
theorem dX3_workOut_81 : decode cX3_workOut 81 = .ok (.lconst 0, 1) := by decide +kernel
theorem dX3_workOut_82 : decode cX3_workOut 82 = .ok (.lcmp, 1) := by decide +kernel
theorem dX3_workOut_83 : decode cX3_workOut 83 = .ok (.ifCond .eq 26, 3) := by decide +kernel
theorem dX3_workOut_86 : decode cX3_workOut 86 = .ok (.lload 6, 2) := by decide +kernel
theorem dX3_workOut_88 : decode cX3_workOut 88 = .ok (.lload_n 1, 1) := by decide +kernel
theorem dX3_workOut_89 : decode cX3_workOut 89 = .ok (.iload 5, 2) := by decide +kernel
theorem dX3_workOut_91 : decode cX3_workOut 91 = .ok (.iload 8, 2) := by decide +kernel
theorem dX3_workOut_93 : decode cX3_workOut 93 = .ok (.invokestatic 80, 3) := by decide +kernel
theorem dX3_workOut_96 : decode cX3_workOut 96 = .ok (.aload_n 0, 1) := by decide +kernel
theorem dX3_workOut_97 : decode cX3_workOut 97 = .ok (.lload 9, 2) := by decide +kernel
theorem dX3_workOut_99 : decode cX3_workOut 99 = .ok (.iload_n 3, 1) := by decide +kernel
theorem dX3_workOut_100 : decode cX3_workOut 100 = .ok (.iconst 1, 1) := by decide +kernel
theorem dX3_workOut_101 : decode cX3_workOut 101 = .ok (.iadd, 1) := by decide +kernel
theorem dX3_workOut_102 : decode cX3_workOut 102 = .ok (.invokevirtual 65, 3) := by decide +kernel
theorem dX3_workOut_105 : decode cX3_workOut 105 = .ok (.lmul, 1) := by decide +kernel
theorem dX3_workOut_106 : decode cX3_workOut 106 = .ok (.ladd, 1) := by decide +kernel
theorem dX3_workOut_107 : decode cX3_workOut 107 = .ok (.lstore 6, 2) := by decide +kernel
theorem dX3_workOut_109 : decode cX3_workOut 109 = .ok (.iinc 8 1, 3) := by decide +kernel
theorem dX3_workOut_112 : decode cX3_workOut 112 = .ok (.goto (-50), 3) := by decide +kernel
theorem dX3_workOut_115 : decode cX3_workOut 115 = .ok (.aload_n 0, 1) := by decide +kernel
theorem dX3_workOut_116 : decode cX3_workOut 116 = .ok (.lload_n 1, 1) := by decide +kernel
theorem dX3_workOut_117 : decode cX3_workOut 117 = .ok (.lload 6, 2) := by decide +kernel
theorem dX3_workOut_119 : decode cX3_workOut 119 = .ok (.invokevirtual 83, 3) := by decide +kernel
theorem dX3_workOut_122 : decode cX3_workOut 122 = .ok (.lload 6, 2) := by decide +kernel
theorem dX3_workOut_124 : decode cX3_workOut 124 = .ok (.lreturn, 1) := by decide +kernel
set_option maxRecDepth 20000 in
theorem ggX3_countMet_X3_workOut : GoodIn wsX3_countMet wsX3_workOut := goodIn_r _ [6, 7, 8, 9, 10, 11, 5, 12, 13, 14, 15, 16, 17, 18, 19, 20, 21, 22, 23, 24, 25, 26, 27, 28, 29, 30, 31, 32, 33, 34, 35, 36, 37, 38, 2, 3, 4, 39, 40, 41, 42, 48, 49, 50, 51, 52, 53, 54] (by decide +kernel) (by decide +kernel)
set_option maxRecDepth 20000 in
theorem gX3_countMet_X3_workOut : GoodIn wsX3_countMet (wsV RX3 65 RX3 yX3_workOut wsX3_workOut) := goodIn_app (goodIn_of _ (by decide +kernel)) ggX3_countMet_X3_workOut
set_option maxRecDepth 20000 in
theorem ggX3_countMet_X3_meet : GoodIn wsX3_countMet wsX3_meet := goodIn_r _ [46, 7, 47, 1, 9, 10, 11, 5, 12, 13, 14, 15, 16, 17, 18, 19, 20, 21, 22, 23, 24, 25, 26, 27, 28, 29, 30, 31, 32, 33, 34, 43, 44, 45, 48, 49, 50, 51, 52, 53, 54] (by decide +kernel) (by decide +kernel)
set_option maxRecDepth 20000 in
theorem gX3_countMet_X3_meet : GoodIn wsX3_countMet (wsV RX3 90 RX3 yX3_meet wsX3_meet) := goodIn_app (goodIn_of _ (by decide +kernel)) ggX3_countMet_X3_meet
theorem dX3_countMet_0 : decode cX3_countMet 0 = .ok (.aload_n 0, 1) := by decide +kernel
theorem dX3_countMet_1 : decode cX3_countMet 1 = .ok (.lload_n 1, 1) := by decide +kernel
theorem dX3_countMet_2 : decode cX3_countMet 2 = .ok (.iconst 0, 1) := by decide +kernel
theorem dX3_countMet_3 : decode cX3_countMet 3 = .ok (.invokevirtual 65, 3) := by decide +kernel
theorem dX3_countMet_6 : decode cX3_countMet 6 = .ok (.pop2, 1) := by decide +kernel
theorem dX3_countMet_7 : decode cX3_countMet 7 = .ok (.aload_n 0, 1) := by decide +kernel
theorem dX3_countMet_8 : decode cX3_countMet 8 = .ok (.dup, 1) := by decide +kernel
theorem dX3_countMet_9 : decode cX3_countMet 9 = .ok (.getfield 87, 3) := by decide +kernel
theorem dX3_countMet_12 : decode cX3_countMet 12 = .ok (.iconst 1, 1) := by decide +kernel
theorem dX3_countMet_13 : decode cX3_countMet 13 = .ok (.iadd, 1) := by decide +kernel
theorem dX3_countMet_14 : decode cX3_countMet 14 = .ok (.putfield 87, 3) := by decide +kernel
theorem dX3_countMet_17 : decode cX3_countMet 17 = .ok (.aload_n 0, 1) := by decide +kernel
theorem dX3_countMet_18 : decode cX3_countMet 18 = .ok (.lload_n 1, 1) := by decide +kernel
theorem dX3_countMet_19 : decode cX3_countMet 19 = .ok (.iconst 0, 1) := by decide +kernel
theorem dX3_countMet_20 : decode cX3_countMet 20 = .ok (.invokevirtual 90, 3) := by decide +kernel
theorem dX3_countMet_23 : decode cX3_countMet 23 = .ok (.ireturn, 1) := by decide +kernel
set_option maxRecDepth 20000 in
theorem ggX3_meet_X3_slotOf : GoodIn wsX3_meet wsX3_slotOf := goodIn_r _ [8, 9, 1, 34, 35, 36, 37, 38, 39, 40] (by decide +kernel) (by decide +kernel)
set_option maxRecDepth 20000 in
theorem gX3_meet_X3_slotOf : GoodIn wsX3_meet (wsV RX3 69 RX3 yX3_slotOf wsX3_slotOf) := goodIn_app (goodIn_of _ (by decide +kernel)) ggX3_meet_X3_slotOf
set_option maxRecDepth 20000 in
theorem ggX3_meet_X3_ruleOf : GoodIn wsX3_meet wsX3_ruleOf := goodIn_r _ [12, 13, 14, 7, 15, 16, 17, 18, 19, 20, 21, 22, 23, 24, 25, 26, 27] (by decide +kernel) (by decide +kernel)
set_option maxRecDepth 20000 in
theorem gX3_meet_X3_ruleOf : GoodIn wsX3_meet (va_wsS RX3 73 yX3_ruleOf wsX3_ruleOf) := goodIn_app (goodIn_of _ (by decide +kernel)) ggX3_meet_X3_ruleOf
set_option maxRecDepth 20000 in
theorem ggX3_meet_X3_nextKey : GoodIn wsX3_meet wsX3_nextKey := goodIn_r _ [30, 24, 25, 7, 26, 27] (by decide +kernel) (by decide +kernel)
set_option maxRecDepth 20000 in
theorem gX3_meet_X3_nextKey : GoodIn wsX3_meet (va_wsS RX3 76 yX3_nextKey wsX3_nextKey) := goodIn_app (goodIn_of _ (by decide +kernel)) ggX3_meet_X3_nextKey
set_option maxRecDepth 20000 in
theorem ggX3_meet_X3_meet : GoodIn wsX3_meet wsX3_meet := goodIn_r _ [0, 1, 2, 3, 4, 5, 6, 7, 8, 9, 10, 11, 12, 13, 14, 15, 16, 17, 18, 19, 20, 21, 22, 23, 24, 25, 26, 27, 28, 29, 30, 31, 32, 33, 34, 35, 36, 37, 38, 39, 40] (by decide +kernel) (by decide +kernel)
set_option maxRecDepth 20000 in
theorem gX3_meet_X3_meet : GoodIn wsX3_meet (wsV RX3 90 RX3 yX3_meet wsX3_meet) := goodIn_app (goodIn_of _ (by decide +kernel)) ggX3_meet_X3_meet
theorem dX3_meet_0 : decode cX3_meet 0 = .ok (.lload_n 1, 1) := by decide +kernel
theorem dX3_meet_1 : decode cX3_meet 1 = .ok (.lconst 0, 1) := by decide +kernel
theorem dX3_meet_2 : decode cX3_meet 2 = .ok (.lcmp, 1) := by decide +kernel
theorem dX3_meet_3 : decode cX3_meet 3 = .ok (.ifCond .eq 9, 3) := by decide +kernel
theorem dX3_meet_6 : decode cX3_meet 6 = .ok (.iload_n 3, 1) := by decide +kernel
theorem dX3_meet_7 : decode cX3_meet 7 = .ok (.bipush 16, 2) := by decide +kernel
theorem dX3_meet_9 : decode cX3_meet 9 = .ok (.if_icmp .le 5, 3) := by decide +kernel
theorem dX3_meet_12 : decode cX3_meet 12 = .ok (.iconst 0, 1) := by decide +kernel
theorem dX3_meet_13 : decode cX3_meet 13 = .ok (.ireturn, 1) := by decide +kernel
theorem dX3_meet_14 : decode cX3_meet 14 = .ok (.aload_n 0, 1) := by decide +kernel
theorem dX3_meet_15 : decode cX3_meet 15 = .ok (.lload_n 1, 1) := by decide +kernel
theorem dX3_meet_16 : decode cX3_meet 16 = .ok (.invokevirtual 69, 3) := by decide +kernel
theorem dX3_meet_19 : decode cX3_meet 19 = .ok (.istore 4, 2) := by decide +kernel
theorem dX3_meet_21 : decode cX3_meet 21 = .ok (.iload 4, 2) := by decide +kernel
theorem dX3_meet_23 : decode cX3_meet 23 = .ok (.iconst (-1), 1) := by decide +kernel
theorem dX3_meet_24 : decode cX3_meet 24 = .ok (.if_icmp .eq 29, 3) := by decide +kernel
theorem dX3_meet_27 : decode cX3_meet 27 = .ok (.aload_n 0, 1) := by decide +kernel
theorem dX3_meet_28 : decode cX3_meet 28 = .ok (.getfield 11, 3) := by decide +kernel
theorem dX3_meet_31 : decode cX3_meet 31 = .ok (.iload 4, 2) := by decide +kernel
theorem dX3_meet_33 : decode cX3_meet 33 = .ok (.laload, 1) := by decide +kernel
theorem dX3_meet_34 : decode cX3_meet 34 = .ok (.lload_n 1, 1) := by decide +kernel
theorem dX3_meet_35 : decode cX3_meet 35 = .ok (.lcmp, 1) := by decide +kernel
theorem dX3_meet_36 : decode cX3_meet 36 = .ok (.ifCond .ne 17, 3) := by decide +kernel
theorem dX3_meet_39 : decode cX3_meet 39 = .ok (.aload_n 0, 1) := by decide +kernel
theorem dX3_meet_40 : decode cX3_meet 40 = .ok (.getfield 18, 3) := by decide +kernel
theorem dX3_meet_43 : decode cX3_meet 43 = .ok (.iload 4, 2) := by decide +kernel
theorem dX3_meet_45 : decode cX3_meet 45 = .ok (.iaload, 1) := by decide +kernel
theorem dX3_meet_46 : decode cX3_meet 46 = .ok (.aload_n 0, 1) := by decide +kernel
theorem dX3_meet_47 : decode cX3_meet 47 = .ok (.getfield 87, 3) := by decide +kernel
theorem dX3_meet_50 : decode cX3_meet 50 = .ok (.if_icmp .ne 5, 3) := by decide +kernel
theorem dX3_meet_53 : decode cX3_meet 53 = .ok (.iconst 0, 1) := by decide +kernel
theorem dX3_meet_54 : decode cX3_meet 54 = .ok (.ireturn, 1) := by decide +kernel
theorem dX3_meet_55 : decode cX3_meet 55 = .ok (.aload_n 0, 1) := by decide +kernel
theorem dX3_meet_56 : decode cX3_meet 56 = .ok (.getfield 18, 3) := by decide +kernel
theorem dX3_meet_59 : decode cX3_meet 59 = .ok (.iload 4, 2) := by decide +kernel
theorem dX3_meet_61 : decode cX3_meet 61 = .ok (.aload_n 0, 1) := by decide +kernel
theorem dX3_meet_62 : decode cX3_meet 62 = .ok (.getfield 87, 3) := by decide +kernel
theorem dX3_meet_65 : decode cX3_meet 65 = .ok (.iastore, 1) := by decide +kernel
theorem dX3_meet_66 : decode cX3_meet 66 = .ok (.lload_n 1, 1) := by decide +kernel
theorem dX3_meet_67 : decode cX3_meet 67 = .ok (.invokestatic 73, 3) := by decide +kernel
theorem dX3_meet_70 : decode cX3_meet 70 = .ok (.istore 5, 2) := by decide +kernel
theorem dX3_meet_72 : decode cX3_meet 72 = .ok (.iconst 1, 1) := by decide +kernel
theorem dX3_meet_73 : decode cX3_meet 73 = .ok (.istore 6, 2) := by decide +kernel
theorem dX3_meet_75 : decode cX3_meet 75 = .ok (.iconst 1, 1) := by decide +kernel
theorem dX3_meet_76 : decode cX3_meet 76 = .ok (.istore 7, 2) := by decide +kernel
theorem dX3_meet_78 : decode cX3_meet 78 = .ok (.iload 7, 2) := by decide +kernel
theorem dX3_meet_80 : decode cX3_meet 80 = .ok (.bipush 14, 2) := by decide +kernel
theorem dX3_meet_82 : decode cX3_meet 82 = .ok (.if_icmp .gt 29, 3) := by decide +kernel
theorem dX3_meet_85 : decode cX3_meet 85 = .ok (.iload 6, 2) := by decide +kernel
theorem dX3_meet_87 : decode cX3_meet 87 = .ok (.aload_n 0, 1) := by decide +kernel
theorem dX3_meet_88 : decode cX3_meet 88 = .ok (.lload_n 1, 1) := by decide +kernel
theorem dX3_meet_89 : decode cX3_meet 89 = .ok (.iload 5, 2) := by decide +kernel
theorem dX3_meet_91 : decode cX3_meet 91 = .ok (.iload 7, 2) := by decide +kernel
theorem dX3_meet_93 : decode cX3_meet 93 = .ok (.invokestatic 76, 3) := by decide +kernel
theorem dX3_meet_96 : decode cX3_meet 96 = .ok (.iload_n 3, 1) := by decide +kernel
theorem dX3_meet_97 : decode cX3_meet 97 = .ok (.iconst 1, 1) := by decide +kernel
theorem dX3_meet_98 : decode cX3_meet 98 = .ok (.iadd, 1) := by decide +kernel
theorem dX3_meet_99 : decode cX3_meet 99 = .ok (.invokevirtual 90, 3) := by decide +kernel
theorem dX3_meet_102 : decode cX3_meet 102 = .ok (.iadd, 1) := by decide +kernel
theorem dX3_meet_103 : decode cX3_meet 103 = .ok (.istore 6, 2) := by decide +kernel
theorem dX3_meet_105 : decode cX3_meet 105 = .ok (.iinc 7 1, 3) := by decide +kernel
theorem dX3_meet_108 : decode cX3_meet 108 = .ok (.goto (-30), 3) := by decide +kernel
theorem dX3_meet_111 : decode cX3_meet 111 = .ok (.iload 6, 2) := by decide +kernel
theorem dX3_meet_113 : decode cX3_meet 113 = .ok (.ireturn, 1) := by decide +kernel
set_option maxRecDepth 20000 in
theorem ggX3_keep_X3_slotOf : GoodIn wsX3_keep wsX3_slotOf := goodIn_r _ [7, 8, 1, 9, 10, 11, 12, 13, 14, 15] (by decide +kernel) (by decide +kernel)
set_option maxRecDepth 20000 in
theorem gX3_keep_X3_slotOf : GoodIn wsX3_keep (wsV RX3 69 RX3 yX3_slotOf wsX3_slotOf) := goodIn_app (goodIn_of _ (by decide +kernel)) ggX3_keep_X3_slotOf
theorem dX3_keep_0 : decode cX3_keep 0 = .ok (.aload_n 0, 1) := by decide +kernel
theorem dX3_keep_1 : decode cX3_keep 1 = .ok (.lload_n 1, 1) := by decide +kernel
theorem dX3_keep_2 : decode cX3_keep 2 = .ok (.invokevirtual 69, 3) := by decide +kernel
theorem dX3_keep_5 : decode cX3_keep 5 = .ok (.istore 5, 2) := by decide +kernel
theorem dX3_keep_7 : decode cX3_keep 7 = .ok (.iload 5, 2) := by decide +kernel
theorem dX3_keep_9 : decode cX3_keep 9 = .ok (.iconst (-1), 1) := by decide +kernel
theorem dX3_keep_10 : decode cX3_keep 10 = .ok (.if_icmp .eq 19, 3) := by decide +kernel
theorem dX3_keep_13 : decode cX3_keep 13 = .ok (.aload_n 0, 1) := by decide +kernel
theorem dX3_keep_14 : decode cX3_keep 14 = .ok (.getfield 11, 3) := by decide +kernel
theorem dX3_keep_17 : decode cX3_keep 17 = .ok (.iload 5, 2) := by decide +kernel
theorem dX3_keep_19 : decode cX3_keep 19 = .ok (.lload_n 1, 1) := by decide +kernel
theorem dX3_keep_20 : decode cX3_keep 20 = .ok (.lastore, 1) := by decide +kernel
theorem dX3_keep_21 : decode cX3_keep 21 = .ok (.aload_n 0, 1) := by decide +kernel
theorem dX3_keep_22 : decode cX3_keep 22 = .ok (.getfield 15, 3) := by decide +kernel
theorem dX3_keep_25 : decode cX3_keep 25 = .ok (.iload 5, 2) := by decide +kernel
theorem dX3_keep_27 : decode cX3_keep 27 = .ok (.lload_n 3, 1) := by decide +kernel
theorem dX3_keep_28 : decode cX3_keep 28 = .ok (.lastore, 1) := by decide +kernel
theorem dX3_keep_29 : decode cX3_keep 29 = .ok (.return_, 1) := by decide +kernel
theorem dX3_slotOf_0 : decode cX3_slotOf 0 = .ok (.lload_n 1, 1) := by decide +kernel
theorem dX3_slotOf_1 : decode cX3_slotOf 1 = .ok (.ldc2_w 93, 3) := by decide +kernel
theorem dX3_slotOf_4 : decode cX3_slotOf 4 = .ok (.lmul, 1) := by decide +kernel
theorem dX3_slotOf_5 : decode cX3_slotOf 5 = .ok (.bipush 54, 2) := by decide +kernel
theorem dX3_slotOf_7 : decode cX3_slotOf 7 = .ok (.lushr, 1) := by decide +kernel
theorem dX3_slotOf_8 : decode cX3_slotOf 8 = .ok (.l2i, 1) := by decide +kernel
theorem dX3_slotOf_9 : decode cX3_slotOf 9 = .ok (.sipush 1023, 3) := by decide +kernel
theorem dX3_slotOf_12 : decode cX3_slotOf 12 = .ok (.iand, 1) := by decide +kernel
theorem dX3_slotOf_13 : decode cX3_slotOf 13 = .ok (.istore_n 3, 1) := by decide +kernel
theorem dX3_slotOf_14 : decode cX3_slotOf 14 = .ok (.iconst 0, 1) := by decide +kernel
theorem dX3_slotOf_15 : decode cX3_slotOf 15 = .ok (.istore 4, 2) := by decide +kernel
theorem dX3_slotOf_17 : decode cX3_slotOf 17 = .ok (.iload 4, 2) := by decide +kernel
theorem dX3_slotOf_19 : decode cX3_slotOf 19 = .ok (.sipush 1024, 3) := by decide +kernel
theorem dX3_slotOf_22 : decode cX3_slotOf 22 = .ok (.if_icmp .ge 41, 3) := by decide +kernel
theorem dX3_slotOf_25 : decode cX3_slotOf 25 = .ok (.aload_n 0, 1) := by decide +kernel
theorem dX3_slotOf_26 : decode cX3_slotOf 26 = .ok (.getfield 11, 3) := by decide +kernel
theorem dX3_slotOf_29 : decode cX3_slotOf 29 = .ok (.iload_n 3, 1) := by decide +kernel
theorem dX3_slotOf_30 : decode cX3_slotOf 30 = .ok (.laload, 1) := by decide +kernel
theorem dX3_slotOf_31 : decode cX3_slotOf 31 = .ok (.lload_n 1, 1) := by decide +kernel
theorem dX3_slotOf_32 : decode cX3_slotOf 32 = .ok (.lcmp, 1) := by decide +kernel
theorem dX3_slotOf_33 : decode cX3_slotOf 33 = .ok (.ifCond .eq 14, 3) := by decide +kernel
theorem dX3_slotOf_36 : decode cX3_slotOf 36 = .ok (.aload_n 0, 1) := by decide +kernel
theorem dX3_slotOf_37 : decode cX3_slotOf 37 = .ok (.getfield 11, 3) := by decide +kernel
theorem dX3_slotOf_40 : decode cX3_slotOf 40 = .ok (.iload_n 3, 1) := by decide +kernel
theorem dX3_slotOf_41 : decode cX3_slotOf 41 = .ok (.laload, 1) := by decide +kernel
theorem dX3_slotOf_42 : decode cX3_slotOf 42 = .ok (.lconst 0, 1) := by decide +kernel
theorem dX3_slotOf_43 : decode cX3_slotOf 43 = .ok (.lcmp, 1) := by decide +kernel
theorem dX3_slotOf_44 : decode cX3_slotOf 44 = .ok (.ifCond .ne 5, 3) := by decide +kernel
theorem dX3_slotOf_47 : decode cX3_slotOf 47 = .ok (.iload_n 3, 1) := by decide +kernel
theorem dX3_slotOf_48 : decode cX3_slotOf 48 = .ok (.ireturn, 1) := by decide +kernel
theorem dX3_slotOf_49 : decode cX3_slotOf 49 = .ok (.iload_n 3, 1) := by decide +kernel
theorem dX3_slotOf_50 : decode cX3_slotOf 50 = .ok (.iconst 1, 1) := by decide +kernel
theorem dX3_slotOf_51 : decode cX3_slotOf 51 = .ok (.iadd, 1) := by decide +kernel
theorem dX3_slotOf_52 : decode cX3_slotOf 52 = .ok (.sipush 1023, 3) := by decide +kernel
theorem dX3_slotOf_55 : decode cX3_slotOf 55 = .ok (.iand, 1) := by decide +kernel
theorem dX3_slotOf_56 : decode cX3_slotOf 56 = .ok (.istore_n 3, 1) := by decide +kernel
theorem dX3_slotOf_57 : decode cX3_slotOf 57 = .ok (.iinc 4 1, 3) := by decide +kernel
theorem dX3_slotOf_60 : decode cX3_slotOf 60 = .ok (.goto (-43), 3) := by decide +kernel
theorem dX3_slotOf_63 : decode cX3_slotOf 63 = .ok (.iconst (-1), 1) := by decide +kernel
theorem dX3_slotOf_64 : decode cX3_slotOf 64 = .ok (.ireturn, 1) := by decide +kernel
set_option maxRecDepth 20000 in
theorem ggX4_init_X7_init : GoodIn wsX4_init wsX7_init := goodIn_r _ [16, 17, 2, 3, 12, 18, 25, 26] (by decide +kernel) (by decide +kernel)
set_option maxRecDepth 20000 in
theorem gX4_init_X7_init : GoodIn wsX4_init (wsX7_init) := ggX4_init_X7_init
set_option maxRecDepth 20000 in
theorem ggX4_init_X1_init : GoodIn wsX4_init wsX1_init := goodIn_r _ [21, 22, 2, 3, 12, 23, 24, 33, 34, 35, 36, 37] (by decide +kernel) (by decide +kernel)
set_option maxRecDepth 20000 in
theorem gX4_init_X1_init : GoodIn wsX4_init (wsX1_init) := ggX4_init_X1_init
theorem dX4_init_0 : decode cX4_init 0 = .ok (.aload_n 0, 1) := by decide +kernel
theorem dX4_init_1 : decode cX4_init 1 = .ok (.invokespecial 3, 3) := by decide +kernel
theorem dX4_init_4 : decode cX4_init 4 = .ok (.aload_n 0, 1) := by decide +kernel
theorem dX4_init_5 : decode cX4_init 5 = .ok (.new 9, 3) := by decide +kernel
theorem dX4_init_8 : decode cX4_init 8 = .ok (.dup, 1) := by decide +kernel
theorem dX4_init_9 : decode cX4_init 9 = .ok (.invokespecial 11, 3) := by decide +kernel
theorem dX4_init_12 : decode cX4_init 12 = .ok (.putfield 12, 3) := by decide +kernel
theorem dX4_init_15 : decode cX4_init 15 = .ok (.aload_n 0, 1) := by decide +kernel
theorem dX4_init_16 : decode cX4_init 16 = .ok (.new 18, 3) := by decide +kernel
theorem dX4_init_19 : decode cX4_init 19 = .ok (.dup, 1) := by decide +kernel
theorem dX4_init_20 : decode cX4_init 20 = .ok (.invokespecial 20, 3) := by decide +kernel
theorem dX4_init_23 : decode cX4_init 23 = .ok (.putfield 21, 3) := by decide +kernel
theorem dX4_init_26 : decode cX4_init 26 = .ok (.aload_n 0, 1) := by decide +kernel
theorem dX4_init_27 : decode cX4_init 27 = .ok (.bipush 6, 2) := by decide +kernel
theorem dX4_init_29 : decode cX4_init 29 = .ok (.newarray .int, 2) := by decide +kernel
theorem dX4_init_31 : decode cX4_init 31 = .ok (.putfield 25, 3) := by decide +kernel
theorem dX4_init_34 : decode cX4_init 34 = .ok (.return_, 1) := by decide +kernel
theorem dX4_causeAt_0 : decode cX4_causeAt 0 = .ok (.iconst 2, 1) := by decide +kernel
theorem dX4_causeAt_1 : decode cX4_causeAt 1 = .ok (.iload_n 1, 1) := by decide +kernel
theorem dX4_causeAt_2 : decode cX4_causeAt 2 = .ok (.imul, 1) := by decide +kernel
theorem dX4_causeAt_3 : decode cX4_causeAt 3 = .ok (.iload_n 2, 1) := by decide +kernel
theorem dX4_causeAt_4 : decode cX4_causeAt 4 = .ok (.iadd, 1) := by decide +kernel
theorem dX4_causeAt_5 : decode cX4_causeAt 5 = .ok (.istore_n 3, 1) := by decide +kernel
theorem dX4_causeAt_6 : decode cX4_causeAt 6 = .ok (.iload_n 3, 1) := by decide +kernel
theorem dX4_causeAt_7 : decode cX4_causeAt 7 = .ok (.ifCond .lt 18, 3) := by decide +kernel
theorem dX4_causeAt_10 : decode cX4_causeAt 10 = .ok (.iload_n 3, 1) := by decide +kernel
theorem dX4_causeAt_11 : decode cX4_causeAt 11 = .ok (.bipush 6, 2) := by decide +kernel
theorem dX4_causeAt_13 : decode cX4_causeAt 13 = .ok (.if_icmp .ge 12, 3) := by decide +kernel
theorem dX4_causeAt_16 : decode cX4_causeAt 16 = .ok (.aload_n 0, 1) := by decide +kernel
theorem dX4_causeAt_17 : decode cX4_causeAt 17 = .ok (.getfield 25, 3) := by decide +kernel
theorem dX4_causeAt_20 : decode cX4_causeAt 20 = .ok (.iload_n 3, 1) := by decide +kernel
theorem dX4_causeAt_21 : decode cX4_causeAt 21 = .ok (.iaload, 1) := by decide +kernel
theorem dX4_causeAt_22 : decode cX4_causeAt 22 = .ok (.goto 4, 3) := by decide +kernel
theorem dX4_causeAt_25 : decode cX4_causeAt 25 = .ok (.iconst (-1), 1) := by decide +kernel
theorem dX4_causeAt_26 : decode cX4_causeAt 26 = .ok (.ireturn, 1) := by decide +kernel
set_option maxRecDepth 20000 in
theorem ggX4_readOver_X1_copyFrom : GoodIn wsX4_readOver wsX1_copyFrom := goodIn_r _ [9, 10, 11, 12, 13, 14, 149, 150, 151, 152, 153] (by decide +kernel) (by decide +kernel)
set_option maxRecDepth 20000 in
theorem gX4_readOver_X1_copyFrom : GoodIn wsX4_readOver (wsV RX4 29 RX1 yX1_copyFrom wsX1_copyFrom) := goodIn_app (goodIn_of _ (by decide +kernel)) ggX4_readOver_X1_copyFrom
set_option maxRecDepth 20000 in
theorem ggX4_readOver_X4_readText : GoodIn wsX4_readOver wsX4_readText := goodIn_r _ [19, 2, 20, 21, 22, 23, 24, 18, 25, 1, 26, 27, 28, 29, 30, 31, 32, 33, 34, 35, 36, 37, 38, 39, 40, 41, 42, 43, 44, 45, 3, 46, 47, 48, 49, 50, 51, 52, 53, 54, 4, 55, 56, 57, 58, 59, 60, 61, 8, 62, 11, 63, 64, 65, 66, 12, 67, 68, 69, 70, 71, 72, 73, 74, 75, 76, 77, 78, 79, 80, 81, 82, 83, 84, 85, 86, 87, 88, 89, 90, 91, 92, 93, 94, 95, 96, 97, 98, 99, 100, 101, 102, 103, 104, 105, 106, 107, 108, 109, 110, 111, 112, 113, 114, 115, 116, 117, 118, 119, 120, 143, 144, 145, 146, 147, 148, 154, 155, 149, 150, 151, 152, 153] (by decide +kernel) (by decide +kernel)
set_option maxRecDepth 20000 in
theorem gX4_readOver_X4_readText : GoodIn wsX4_readOver (wsV RX4 40 RX4 yX4_readText wsX4_readText) := goodIn_app (goodIn_of _ (by decide +kernel)) ggX4_readOver_X4_readText
set_option maxRecDepth 20000 in
theorem ggX4_readOver_X4_keepWhy : GoodIn wsX4_readOver wsX4_keepWhy := goodIn_r _ [124, 125, 126, 20, 21, 127, 128, 129, 18, 130, 131, 132, 133, 30, 134, 32, 33, 34, 35, 36, 37, 135, 136, 137, 138, 139, 140, 141, 142, 143, 144, 145, 146, 147, 148, 154, 155] (by decide +kernel) (by decide +kernel)
set_option maxRecDepth 20000 in
theorem gX4_readOver_X4_keepWhy : GoodIn wsX4_readOver (wsV RX4 44 RX4 yX4_keepWhy wsX4_keepWhy) := goodIn_app (goodIn_of _ (by decide +kernel)) ggX4_readOver_X4_keepWhy
theorem dX4_readOver_0 : decode cX4_readOver 0 = .ok (.aload_n 0, 1) := by decide +kernel
theorem dX4_readOver_1 : decode cX4_readOver 1 = .ok (.getfield 21, 3) := by decide +kernel
theorem dX4_readOver_4 : decode cX4_readOver 4 = .ok (.aload_n 1, 1) := by decide +kernel
theorem dX4_readOver_5 : decode cX4_readOver 5 = .ok (.invokevirtual 29, 3) := by decide +kernel
theorem dX4_readOver_8 : decode cX4_readOver 8 = .ok (.aload_n 0, 1) := by decide +kernel
theorem dX4_readOver_9 : decode cX4_readOver 9 = .ok (.iconst 0, 1) := by decide +kernel
theorem dX4_readOver_10 : decode cX4_readOver 10 = .ok (.putfield 33, 3) := by decide +kernel
theorem dX4_readOver_13 : decode cX4_readOver 13 = .ok (.aload_n 0, 1) := by decide +kernel
theorem dX4_readOver_14 : decode cX4_readOver 14 = .ok (.iconst (-1), 1) := by decide +kernel
theorem dX4_readOver_15 : decode cX4_readOver 15 = .ok (.putfield 37, 3) := by decide +kernel
theorem dX4_readOver_18 : decode cX4_readOver 18 = .ok (.aload_n 0, 1) := by decide +kernel
theorem dX4_readOver_19 : decode cX4_readOver 19 = .ok (.invokevirtual 40, 3) := by decide +kernel
theorem dX4_readOver_22 : decode cX4_readOver 22 = .ok (.ifCond .ne 22, 3) := by decide +kernel
theorem dX4_readOver_25 : decode cX4_readOver 25 = .ok (.aload_n 0, 1) := by decide +kernel
theorem dX4_readOver_26 : decode cX4_readOver 26 = .ok (.bipush 6, 2) := by decide +kernel
theorem dX4_readOver_28 : decode cX4_readOver 28 = .ok (.aload_n 0, 1) := by decide +kernel
theorem dX4_readOver_29 : decode cX4_readOver 29 = .ok (.getfield 33, 3) := by decide +kernel
theorem dX4_readOver_32 : decode cX4_readOver 32 = .ok (.invokevirtual 44, 3) := by decide +kernel
theorem dX4_readOver_35 : decode cX4_readOver 35 = .ok (.sipush (-1000), 3) := by decide +kernel
theorem dX4_readOver_38 : decode cX4_readOver 38 = .ok (.aload_n 0, 1) := by decide +kernel
theorem dX4_readOver_39 : decode cX4_readOver 39 = .ok (.getfield 33, 3) := by decide +kernel
theorem dX4_readOver_42 : decode cX4_readOver 42 = .ok (.isub, 1) := by decide +kernel
theorem dX4_readOver_43 : decode cX4_readOver 43 = .ok (.ireturn, 1) := by decide +kernel
theorem dX4_readOver_44 : decode cX4_readOver 44 = .ok (.aload_n 0, 1) := by decide +kernel
theorem dX4_readOver_45 : decode cX4_readOver 45 = .ok (.getfield 37, 3) := by decide +kernel
theorem dX4_readOver_48 : decode cX4_readOver 48 = .ok (.iconst (-1), 1) := by decide +kernel
theorem dX4_readOver_49 : decode cX4_readOver 49 = .ok (.if_icmp .eq 22, 3) := by decide +kernel
theorem dX4_readOver_52 : decode cX4_readOver 52 = .ok (.aload_n 0, 1) := by decide +kernel
theorem dX4_readOver_53 : decode cX4_readOver 53 = .ok (.bipush 7, 2) := by decide +kernel
theorem dX4_readOver_55 : decode cX4_readOver 55 = .ok (.aload_n 0, 1) := by decide +kernel
theorem dX4_readOver_56 : decode cX4_readOver 56 = .ok (.getfield 37, 3) := by decide +kernel
theorem dX4_readOver_59 : decode cX4_readOver 59 = .ok (.invokevirtual 44, 3) := by decide +kernel
theorem dX4_readOver_62 : decode cX4_readOver 62 = .ok (.sipush (-2000), 3) := by decide +kernel
theorem dX4_readOver_65 : decode cX4_readOver 65 = .ok (.aload_n 0, 1) := by decide +kernel
theorem dX4_readOver_66 : decode cX4_readOver 66 = .ok (.getfield 37, 3) := by decide +kernel
theorem dX4_readOver_69 : decode cX4_readOver 69 = .ok (.isub, 1) := by decide +kernel
theorem dX4_readOver_70 : decode cX4_readOver 70 = .ok (.ireturn, 1) := by decide +kernel
theorem dX4_readOver_71 : decode cX4_readOver 71 = .ok (.aload_n 1, 1) := by decide +kernel
theorem dX4_readOver_72 : decode cX4_readOver 72 = .ok (.aload_n 0, 1) := by decide +kernel
theorem dX4_readOver_73 : decode cX4_readOver 73 = .ok (.getfield 21, 3) := by decide +kernel
theorem dX4_readOver_76 : decode cX4_readOver 76 = .ok (.invokevirtual 29, 3) := by decide +kernel
theorem dX4_readOver_79 : decode cX4_readOver 79 = .ok (.aload_n 1, 1) := by decide +kernel
theorem dX4_readOver_80 : decode cX4_readOver 80 = .ok (.getfield 48, 3) := by decide +kernel
theorem dX4_readOver_83 : decode cX4_readOver 83 = .ok (.ireturn, 1) := by decide +kernel
set_option maxRecDepth 20000 in
theorem ggX4_readText_X4_readGenus : GoodIn wsX4_readText wsX4_readGenus := goodIn_r _ [8, 2, 1, 9, 10, 11, 12, 13, 14, 15, 16, 17, 18, 19, 20, 21, 22, 23, 24, 25, 26, 27, 28, 7, 29, 30, 110, 111, 112, 113, 114, 115, 118, 119, 120, 121, 122, 116, 117] (by decide +kernel) (by decide +kernel)
set_option maxRecDepth 20000 in
theorem gX4_readText_X4_readGenus : GoodIn wsX4_readText (wsV RX4 51 RX4 yX4_readGenus wsX4_readGenus) := goodIn_app (goodIn_of _ (by decide +kernel)) ggX4_readText_X4_readGenus
set_option maxRecDepth 20000 in
theorem ggX4_readText_X4_readSign : GoodIn wsX4_readText wsX4_readSign := goodIn_r _ [34, 2, 1, 35, 17, 18, 14, 19, 20, 21, 110, 111, 112, 113, 114, 115, 116, 117] (by decide +kernel) (by decide +kernel)
set_option maxRecDepth 20000 in
theorem gX4_readText_X4_readSign : GoodIn wsX4_readText (wsV RX4 54 RX4 yX4_readSign wsX4_readSign) := goodIn_app (goodIn_of _ (by decide +kernel)) ggX4_readText_X4_readSign
set_option maxRecDepth 20000 in
theorem ggX4_readText_X4_readMarks : GoodIn wsX4_readText wsX4_readMarks := goodIn_r _ [39, 9, 40, 2, 1, 11, 12, 13, 14, 15, 16, 17, 18, 19, 20, 21, 41, 42, 43, 7, 44, 22, 23, 24, 25, 26, 27, 28, 29, 30, 45, 46, 47, 48, 49, 50, 51, 52, 53, 54, 55, 31, 32, 33, 34, 35, 110, 111, 112, 113, 114, 115, 118, 119, 120, 121, 122, 116, 117] (by decide +kernel) (by decide +kernel)
set_option maxRecDepth 20000 in
theorem gX4_readText_X4_readMarks : GoodIn wsX4_readText (wsV RX4 58 RX4 yX4_readMarks wsX4_readMarks) := goodIn_app (goodIn_of _ (by decide +kernel)) ggX4_readText_X4_readMarks
set_option maxRecDepth 20000 in
theorem ggX4_readText_X4_readLeafCount : GoodIn wsX4_readText wsX4_readLeafCount := goodIn_r _ [59, 2, 1, 9, 60, 61, 11, 12, 13, 14, 15, 16, 17, 18, 19, 20, 21, 22, 23, 24, 25, 62, 63, 64, 65, 26, 27, 28, 7, 29, 30, 110, 111, 112, 113, 114, 115, 118, 119, 120, 121, 122, 116, 117] (by decide +kernel) (by decide +kernel)
set_option maxRecDepth 20000 in
theorem gX4_readText_X4_readLeafCount : GoodIn wsX4_readText (wsV RX4 61 RX4 yX4_readLeafCount wsX4_readLeafCount) := goodIn_app (goodIn_of _ (by decide +kernel)) ggX4_readText_X4_readLeafCount
set_option maxRecDepth 20000 in
theorem ggX4_readText_X4_readSplits : GoodIn wsX4_readText wsX4_readSplits := goodIn_r _ [69, 31, 32, 33, 7, 34, 2, 1, 35, 17, 18, 14, 19, 20, 21, 70, 71, 72, 73, 9, 60, 61, 11, 12, 13, 15, 16, 22, 23, 24, 25, 74, 75, 64, 76, 77, 63, 65, 78, 79, 80, 81, 82, 83, 84, 85, 86, 87, 88, 89, 90, 91, 92, 93, 94, 95, 96, 97, 98, 99, 100, 101, 102, 103, 104, 105, 106, 107, 108, 109, 26, 27, 28, 29, 30, 110, 111, 112, 113, 114, 115, 116, 117, 118, 119, 120, 121, 122] (by decide +kernel) (by decide +kernel)
set_option maxRecDepth 20000 in
theorem gX4_readText_X4_readSplits : GoodIn wsX4_readText (wsV RX4 64 RX4 yX4_readSplits wsX4_readSplits) := goodIn_app (goodIn_of _ (by decide +kernel)) ggX4_readText_X4_readSplits
theorem dX4_readText_0 : decode cX4_readText 0 = .ok (.aload_n 0, 1) := by decide +kernel
theorem dX4_readText_1 : decode cX4_readText 1 = .ok (.invokevirtual 51, 3) := by decide +kernel
theorem dX4_readText_4 : decode cX4_readText 4 = .ok (.ifCond .eq 19, 3) := by decide +kernel
theorem dX4_readText_7 : decode cX4_readText 7 = .ok (.aload_n 0, 1) := by decide +kernel
theorem dX4_readText_8 : decode cX4_readText 8 = .ok (.bipush 58, 2) := by decide +kernel
theorem dX4_readText_10 : decode cX4_readText 10 = .ok (.invokevirtual 54, 3) := by decide +kernel
theorem dX4_readText_13 : decode cX4_readText 13 = .ok (.ifCond .eq 10, 3) := by decide +kernel
theorem dX4_readText_16 : decode cX4_readText 16 = .ok (.aload_n 0, 1) := by decide +kernel
theorem dX4_readText_17 : decode cX4_readText 17 = .ok (.invokevirtual 58, 3) := by decide +kernel
theorem dX4_readText_20 : decode cX4_readText 20 = .ok (.ifCond .ne 5, 3) := by decide +kernel
theorem dX4_readText_23 : decode cX4_readText 23 = .ok (.iconst 0, 1) := by decide +kernel
theorem dX4_readText_24 : decode cX4_readText 24 = .ok (.ireturn, 1) := by decide +kernel
theorem dX4_readText_25 : decode cX4_readText 25 = .ok (.aload_n 0, 1) := by decide +kernel
theorem dX4_readText_26 : decode cX4_readText 26 = .ok (.bipush 47, 2) := by decide +kernel
theorem dX4_readText_28 : decode cX4_readText 28 = .ok (.invokevirtual 54, 3) := by decide +kernel
theorem dX4_readText_31 : decode cX4_readText 31 = .ok (.ifCond .eq 19, 3) := by decide +kernel
theorem dX4_readText_34 : decode cX4_readText 34 = .ok (.aload_n 0, 1) := by decide +kernel
theorem dX4_readText_35 : decode cX4_readText 35 = .ok (.invokevirtual 61, 3) := by decide +kernel
theorem dX4_readText_38 : decode cX4_readText 38 = .ok (.ifCond .eq 10, 3) := by decide +kernel
theorem dX4_readText_41 : decode cX4_readText 41 = .ok (.aload_n 0, 1) := by decide +kernel
theorem dX4_readText_42 : decode cX4_readText 42 = .ok (.invokevirtual 64, 3) := by decide +kernel
theorem dX4_readText_45 : decode cX4_readText 45 = .ok (.ifCond .ne 5, 3) := by decide +kernel
theorem dX4_readText_48 : decode cX4_readText 48 = .ok (.iconst 0, 1) := by decide +kernel
theorem dX4_readText_49 : decode cX4_readText 49 = .ok (.ireturn, 1) := by decide +kernel
theorem dX4_readText_50 : decode cX4_readText 50 = .ok (.aload_n 0, 1) := by decide +kernel
theorem dX4_readText_51 : decode cX4_readText 51 = .ok (.getfield 33, 3) := by decide +kernel
theorem dX4_readText_54 : decode cX4_readText 54 = .ok (.aload_n 0, 1) := by decide +kernel
theorem dX4_readText_55 : decode cX4_readText 55 = .ok (.getfield 12, 3) := by decide +kernel
theorem dX4_readText_58 : decode cX4_readText 58 = .ok (.getfield 67, 3) := by decide +kernel
theorem dX4_readText_61 : decode cX4_readText 61 = .ok (.if_icmp .ne 7, 3) := by decide +kernel
theorem dX4_readText_64 : decode cX4_readText 64 = .ok (.iconst 1, 1) := by decide +kernel
theorem dX4_readText_65 : decode cX4_readText 65 = .ok (.goto 4, 3) := by decide +kernel
theorem dX4_readText_68 : decode cX4_readText 68 = .ok (.iconst 0, 1) := by decide +kernel
theorem dX4_readText_69 : decode cX4_readText 69 = .ok (.ireturn, 1) := by decide +kernel
set_option maxRecDepth 20000 in
theorem ggX4_readSign_X7_byteAt : GoodIn wsX4_readSign wsX7_byteAt := goodIn_r _ [7, 8, 9, 16, 17] (by decide +kernel) (by decide +kernel)
set_option maxRecDepth 20000 in
theorem gX4_readSign_X7_byteAt : GoodIn wsX4_readSign (wsV RX4 68 RX7 yX7_byteAt wsX7_byteAt) := goodIn_app (goodIn_of _ (by decide +kernel)) ggX4_readSign_X7_byteAt
theorem dX4_readSign_0 : decode cX4_readSign 0 = .ok (.aload_n 0, 1) := by decide +kernel
theorem dX4_readSign_1 : decode cX4_readSign 1 = .ok (.getfield 12, 3) := by decide +kernel
theorem dX4_readSign_4 : decode cX4_readSign 4 = .ok (.aload_n 0, 1) := by decide +kernel
theorem dX4_readSign_5 : decode cX4_readSign 5 = .ok (.getfield 33, 3) := by decide +kernel
theorem dX4_readSign_8 : decode cX4_readSign 8 = .ok (.invokevirtual 68, 3) := by decide +kernel
theorem dX4_readSign_11 : decode cX4_readSign 11 = .ok (.iload_n 1, 1) := by decide +kernel
theorem dX4_readSign_12 : decode cX4_readSign 12 = .ok (.if_icmp .eq 5, 3) := by decide +kernel
theorem dX4_readSign_15 : decode cX4_readSign 15 = .ok (.iconst 0, 1) := by decide +kernel
theorem dX4_readSign_16 : decode cX4_readSign 16 = .ok (.ireturn, 1) := by decide +kernel
theorem dX4_readSign_17 : decode cX4_readSign 17 = .ok (.aload_n 0, 1) := by decide +kernel
theorem dX4_readSign_18 : decode cX4_readSign 18 = .ok (.dup, 1) := by decide +kernel
theorem dX4_readSign_19 : decode cX4_readSign 19 = .ok (.getfield 33, 3) := by decide +kernel
theorem dX4_readSign_22 : decode cX4_readSign 22 = .ok (.iconst 1, 1) := by decide +kernel
theorem dX4_readSign_23 : decode cX4_readSign 23 = .ok (.iadd, 1) := by decide +kernel
theorem dX4_readSign_24 : decode cX4_readSign 24 = .ok (.putfield 33, 3) := by decide +kernel
theorem dX4_readSign_27 : decode cX4_readSign 27 = .ok (.iconst 1, 1) := by decide +kernel
theorem dX4_readSign_28 : decode cX4_readSign 28 = .ok (.ireturn, 1) := by decide +kernel
set_option maxRecDepth 20000 in
theorem ggX4_readGenus_X7_isFigure : GoodIn wsX4_readGenus wsX7_isFigure := goodIn_r _ [9, 10, 11, 12, 8, 13, 14, 15, 37, 38] (by decide +kernel) (by decide +kernel)
set_option maxRecDepth 20000 in
theorem gX4_readGenus_X7_isFigure : GoodIn wsX4_readGenus (wsV RX4 72 RX7 yX7_isFigure wsX7_isFigure) := goodIn_app (goodIn_of _ (by decide +kernel)) ggX4_readGenus_X7_isFigure
set_option maxRecDepth 20000 in
theorem ggX4_readGenus_X7_figureAt : GoodIn wsX4_readGenus wsX7_figureAt := goodIn_r _ [19, 10, 11, 12, 8, 13, 14, 15, 37, 38] (by decide +kernel) (by decide +kernel)
set_option maxRecDepth 20000 in
theorem gX4_readGenus_X7_figureAt : GoodIn wsX4_readGenus (wsV RX4 76 RX7 yX7_figureAt wsX7_figureAt) := goodIn_app (goodIn_of _ (by decide +kernel)) ggX4_readGenus_X7_figureAt
set_option maxRecDepth 20000 in
theorem ggX4_readGenus_X4_noteCannotBe : GoodIn wsX4_readGenus wsX4_noteCannotBe := goodIn_r _ [24, 25, 26, 27, 28, 29, 30, 31] (by decide +kernel) (by decide +kernel)
set_option maxRecDepth 20000 in
theorem gX4_readGenus_X4_noteCannotBe : GoodIn wsX4_readGenus (wsV RX4 82 RX4 yX4_noteCannotBe wsX4_noteCannotBe) := goodIn_app (goodIn_of _ (by decide +kernel)) ggX4_readGenus_X4_noteCannotBe
theorem dX4_readGenus_0 : decode cX4_readGenus 0 = .ok (.aload_n 0, 1) := by decide +kernel
theorem dX4_readGenus_1 : decode cX4_readGenus 1 = .ok (.getfield 12, 3) := by decide +kernel
theorem dX4_readGenus_4 : decode cX4_readGenus 4 = .ok (.aload_n 0, 1) := by decide +kernel
theorem dX4_readGenus_5 : decode cX4_readGenus 5 = .ok (.getfield 33, 3) := by decide +kernel
theorem dX4_readGenus_8 : decode cX4_readGenus 8 = .ok (.invokevirtual 72, 3) := by decide +kernel
theorem dX4_readGenus_11 : decode cX4_readGenus 11 = .ok (.ifCond .ne 5, 3) := by decide +kernel
theorem dX4_readGenus_14 : decode cX4_readGenus 14 = .ok (.iconst 0, 1) := by decide +kernel
theorem dX4_readGenus_15 : decode cX4_readGenus 15 = .ok (.ireturn, 1) := by decide +kernel
theorem dX4_readGenus_16 : decode cX4_readGenus 16 = .ok (.aload_n 0, 1) := by decide +kernel
theorem dX4_readGenus_17 : decode cX4_readGenus 17 = .ok (.getfield 21, 3) := by decide +kernel
theorem dX4_readGenus_20 : decode cX4_readGenus 20 = .ok (.aload_n 0, 1) := by decide +kernel
theorem dX4_readGenus_21 : decode cX4_readGenus 21 = .ok (.getfield 12, 3) := by decide +kernel
theorem dX4_readGenus_24 : decode cX4_readGenus 24 = .ok (.aload_n 0, 1) := by decide +kernel
theorem dX4_readGenus_25 : decode cX4_readGenus 25 = .ok (.getfield 33, 3) := by decide +kernel
theorem dX4_readGenus_28 : decode cX4_readGenus 28 = .ok (.invokevirtual 76, 3) := by decide +kernel
theorem dX4_readGenus_31 : decode cX4_readGenus 31 = .ok (.putfield 79, 3) := by decide +kernel
theorem dX4_readGenus_34 : decode cX4_readGenus 34 = .ok (.aload_n 0, 1) := by decide +kernel
theorem dX4_readGenus_35 : decode cX4_readGenus 35 = .ok (.getfield 21, 3) := by decide +kernel
theorem dX4_readGenus_38 : decode cX4_readGenus 38 = .ok (.getfield 79, 3) := by decide +kernel
theorem dX4_readGenus_41 : decode cX4_readGenus 41 = .ok (.iconst 2, 1) := by decide +kernel
theorem dX4_readGenus_42 : decode cX4_readGenus 42 = .ok (.if_icmp .le 11, 3) := by decide +kernel
theorem dX4_readGenus_45 : decode cX4_readGenus 45 = .ok (.aload_n 0, 1) := by decide +kernel
theorem dX4_readGenus_46 : decode cX4_readGenus 46 = .ok (.aload_n 0, 1) := by decide +kernel
theorem dX4_readGenus_47 : decode cX4_readGenus 47 = .ok (.getfield 33, 3) := by decide +kernel
theorem dX4_readGenus_50 : decode cX4_readGenus 50 = .ok (.invokevirtual 82, 3) := by decide +kernel
theorem dX4_readGenus_53 : decode cX4_readGenus 53 = .ok (.aload_n 0, 1) := by decide +kernel
theorem dX4_readGenus_54 : decode cX4_readGenus 54 = .ok (.dup, 1) := by decide +kernel
theorem dX4_readGenus_55 : decode cX4_readGenus 55 = .ok (.getfield 33, 3) := by decide +kernel
theorem dX4_readGenus_58 : decode cX4_readGenus 58 = .ok (.iconst 1, 1) := by decide +kernel
theorem dX4_readGenus_59 : decode cX4_readGenus 59 = .ok (.iadd, 1) := by decide +kernel
theorem dX4_readGenus_60 : decode cX4_readGenus 60 = .ok (.putfield 33, 3) := by decide +kernel
theorem dX4_readGenus_63 : decode cX4_readGenus 63 = .ok (.iconst 1, 1) := by decide +kernel
theorem dX4_readGenus_64 : decode cX4_readGenus 64 = .ok (.ireturn, 1) := by decide +kernel
set_option maxRecDepth 20000 in
theorem ggX4_readMarks_X7_isFigure : GoodIn wsX4_readMarks wsX7_isFigure := goodIn_r _ [9, 10, 11, 12, 8, 13, 14, 15, 57, 58] (by decide +kernel) (by decide +kernel)
set_option maxRecDepth 20000 in
theorem gX4_readMarks_X7_isFigure : GoodIn wsX4_readMarks (wsV RX4 72 RX7 yX7_isFigure wsX7_isFigure) := goodIn_app (goodIn_of _ (by decide +kernel)) ggX4_readMarks_X7_isFigure
set_option maxRecDepth 20000 in
theorem ggX4_readMarks_X4_readPower : GoodIn wsX4_readMarks wsX4_readPower := goodIn_r _ [20, 4, 3, 1, 21, 22, 23, 8, 24, 10, 11, 12, 13, 14, 15, 5, 6, 7, 9, 25, 26, 27, 19, 28, 29, 30, 31, 32, 33, 34, 35, 36, 37, 38, 39, 40, 46, 47, 48, 49, 50, 51, 57, 58, 52, 53, 54, 55, 56] (by decide +kernel) (by decide +kernel)
set_option maxRecDepth 20000 in
theorem gX4_readMarks_X4_readPower : GoodIn wsX4_readMarks (wsV RX4 86 RX4 yX4_readPower wsX4_readPower) := goodIn_app (goodIn_of _ (by decide +kernel)) ggX4_readMarks_X4_readPower
set_option maxRecDepth 20000 in
theorem ggX4_readMarks_X4_readSign : GoodIn wsX4_readMarks wsX4_readSign := goodIn_r _ [44, 3, 4, 45, 11, 12, 8, 13, 14, 15, 46, 47, 48, 49, 50, 51, 57, 58] (by decide +kernel) (by decide +kernel)
set_option maxRecDepth 20000 in
theorem gX4_readMarks_X4_readSign : GoodIn wsX4_readMarks (wsV RX4 54 RX4 yX4_readSign wsX4_readSign) := goodIn_app (goodIn_of _ (by decide +kernel)) ggX4_readMarks_X4_readSign
theorem dX4_readMarks_0 : decode cX4_readMarks 0 = .ok (.aload_n 0, 1) := by decide +kernel
theorem dX4_readMarks_1 : decode cX4_readMarks 1 = .ok (.getfield 21, 3) := by decide +kernel
theorem dX4_readMarks_4 : decode cX4_readMarks 4 = .ok (.iconst 0, 1) := by decide +kernel
theorem dX4_readMarks_5 : decode cX4_readMarks 5 = .ok (.putfield 48, 3) := by decide +kernel
theorem dX4_readMarks_8 : decode cX4_readMarks 8 = .ok (.aload_n 0, 1) := by decide +kernel
theorem dX4_readMarks_9 : decode cX4_readMarks 9 = .ok (.getfield 12, 3) := by decide +kernel
theorem dX4_readMarks_12 : decode cX4_readMarks 12 = .ok (.aload_n 0, 1) := by decide +kernel
theorem dX4_readMarks_13 : decode cX4_readMarks 13 = .ok (.getfield 33, 3) := by decide +kernel
theorem dX4_readMarks_16 : decode cX4_readMarks 16 = .ok (.invokevirtual 72, 3) := by decide +kernel
theorem dX4_readMarks_19 : decode cX4_readMarks 19 = .ok (.istore_n 1, 1) := by decide +kernel
theorem dX4_readMarks_20 : decode cX4_readMarks 20 = .ok (.iconst 0, 1) := by decide +kernel
theorem dX4_readMarks_21 : decode cX4_readMarks 21 = .ok (.istore_n 2, 1) := by decide +kernel
theorem dX4_readMarks_22 : decode cX4_readMarks 22 = .ok (.iload_n 2, 1) := by decide +kernel
theorem dX4_readMarks_23 : decode cX4_readMarks 23 = .ok (.bipush 8, 2) := by decide +kernel
theorem dX4_readMarks_25 : decode cX4_readMarks 25 = .ok (.if_icmp .ge 54, 3) := by decide +kernel
theorem dX4_readMarks_28 : decode cX4_readMarks 28 = .ok (.iload_n 1, 1) := by decide +kernel
theorem dX4_readMarks_29 : decode cX4_readMarks 29 = .ok (.ifCond .eq 50, 3) := by decide +kernel
theorem dX4_readMarks_32 : decode cX4_readMarks 32 = .ok (.aload_n 0, 1) := by decide +kernel
theorem dX4_readMarks_33 : decode cX4_readMarks 33 = .ok (.getfield 12, 3) := by decide +kernel
theorem dX4_readMarks_36 : decode cX4_readMarks 36 = .ok (.aload_n 0, 1) := by decide +kernel
theorem dX4_readMarks_37 : decode cX4_readMarks 37 = .ok (.getfield 33, 3) := by decide +kernel
theorem dX4_readMarks_40 : decode cX4_readMarks 40 = .ok (.invokevirtual 72, 3) := by decide +kernel
theorem dX4_readMarks_43 : decode cX4_readMarks 43 = .ok (.ifCond .ne 5, 3) := by decide +kernel
theorem dX4_readMarks_46 : decode cX4_readMarks 46 = .ok (.iconst 0, 1) := by decide +kernel
theorem dX4_readMarks_47 : decode cX4_readMarks 47 = .ok (.ireturn, 1) := by decide +kernel
theorem dX4_readMarks_48 : decode cX4_readMarks 48 = .ok (.aload_n 0, 1) := by decide +kernel
theorem dX4_readMarks_49 : decode cX4_readMarks 49 = .ok (.invokevirtual 86, 3) := by decide +kernel
theorem dX4_readMarks_52 : decode cX4_readMarks 52 = .ok (.iload_n 2, 1) := by decide +kernel
theorem dX4_readMarks_53 : decode cX4_readMarks 53 = .ok (.bipush 7, 2) := by decide +kernel
theorem dX4_readMarks_55 : decode cX4_readMarks 55 = .ok (.if_icmp .ge 16, 3) := by decide +kernel
theorem dX4_readMarks_58 : decode cX4_readMarks 58 = .ok (.aload_n 0, 1) := by decide +kernel
theorem dX4_readMarks_59 : decode cX4_readMarks 59 = .ok (.bipush 44, 2) := by decide +kernel
theorem dX4_readMarks_61 : decode cX4_readMarks 61 = .ok (.invokevirtual 54, 3) := by decide +kernel
theorem dX4_readMarks_64 : decode cX4_readMarks 64 = .ok (.ifCond .eq 7, 3) := by decide +kernel
theorem dX4_readMarks_67 : decode cX4_readMarks 67 = .ok (.iconst 1, 1) := by decide +kernel
theorem dX4_readMarks_68 : decode cX4_readMarks 68 = .ok (.goto 4, 3) := by decide +kernel
theorem dX4_readMarks_71 : decode cX4_readMarks 71 = .ok (.iconst 0, 1) := by decide +kernel
theorem dX4_readMarks_72 : decode cX4_readMarks 72 = .ok (.istore_n 1, 1) := by decide +kernel
theorem dX4_readMarks_73 : decode cX4_readMarks 73 = .ok (.iinc 2 1, 3) := by decide +kernel
theorem dX4_readMarks_76 : decode cX4_readMarks 76 = .ok (.goto (-54), 3) := by decide +kernel
theorem dX4_readMarks_79 : decode cX4_readMarks 79 = .ok (.iconst 1, 1) := by decide +kernel
theorem dX4_readMarks_80 : decode cX4_readMarks 80 = .ok (.ireturn, 1) := by decide +kernel
set_option maxRecDepth 20000 in
theorem ggX4_readPower_X7_figureAt : GoodIn wsX4_readPower wsX7_figureAt := goodIn_r _ [8, 9, 10, 11, 7, 12, 13, 14, 42, 43] (by decide +kernel) (by decide +kernel)
set_option maxRecDepth 20000 in
theorem gX4_readPower_X7_figureAt : GoodIn wsX4_readPower (wsV RX4 76 RX7 yX7_figureAt wsX7_figureAt) := goodIn_app (goodIn_of _ (by decide +kernel)) ggX4_readPower_X7_figureAt
set_option maxRecDepth 20000 in
theorem ggX4_readPower_X7_isFigure : GoodIn wsX4_readPower wsX7_isFigure := goodIn_r _ [18, 9, 10, 11, 7, 12, 13, 14, 42, 43] (by decide +kernel) (by decide +kernel)
set_option maxRecDepth 20000 in
theorem gX4_readPower_X7_isFigure : GoodIn wsX4_readPower (wsV RX4 72 RX7 yX7_isFigure wsX7_isFigure) := goodIn_app (goodIn_of _ (by decide +kernel)) ggX4_readPower_X7_isFigure
set_option maxRecDepth 20000 in
theorem ggX4_readPower_X4_noteCannotBe : GoodIn wsX4_readPower wsX4_noteCannotBe := goodIn_r _ [23, 24, 36, 37, 38, 39, 40, 41] (by decide +kernel) (by decide +kernel)
set_option maxRecDepth 20000 in
theorem gX4_readPower_X4_noteCannotBe : GoodIn wsX4_readPower (wsV RX4 82 RX4 yX4_noteCannotBe wsX4_noteCannotBe) := goodIn_app (goodIn_of _ (by decide +kernel)) ggX4_readPower_X4_noteCannotBe
set_option maxRecDepth 20000 in
theorem ggX4_readPower_X1_addMark : GoodIn wsX4_readPower wsX1_addMark := goodIn_r _ [29, 30, 31, 32, 33, 28, 34, 35, 44, 45, 46, 47, 48] (by decide +kernel) (by decide +kernel)
set_option maxRecDepth 20000 in
theorem gX4_readPower_X1_addMark : GoodIn wsX4_readPower (wsV RX4 89 RX1 yX1_addMark wsX1_addMark) := goodIn_app (goodIn_of _ (by decide +kernel)) ggX4_readPower_X1_addMark
theorem dX4_readPower_0 : decode cX4_readPower 0 = .ok (.aload_n 0, 1) := by decide +kernel
theorem dX4_readPower_1 : decode cX4_readPower 1 = .ok (.getfield 33, 3) := by decide +kernel
theorem dX4_readPower_4 : decode cX4_readPower 4 = .ok (.istore_n 1, 1) := by decide +kernel
theorem dX4_readPower_5 : decode cX4_readPower 5 = .ok (.aload_n 0, 1) := by decide +kernel
theorem dX4_readPower_6 : decode cX4_readPower 6 = .ok (.getfield 12, 3) := by decide +kernel
theorem dX4_readPower_9 : decode cX4_readPower 9 = .ok (.aload_n 0, 1) := by decide +kernel
theorem dX4_readPower_10 : decode cX4_readPower 10 = .ok (.getfield 33, 3) := by decide +kernel
theorem dX4_readPower_13 : decode cX4_readPower 13 = .ok (.invokevirtual 76, 3) := by decide +kernel
theorem dX4_readPower_16 : decode cX4_readPower 16 = .ok (.istore_n 2, 1) := by decide +kernel
theorem dX4_readPower_17 : decode cX4_readPower 17 = .ok (.aload_n 0, 1) := by decide +kernel
theorem dX4_readPower_18 : decode cX4_readPower 18 = .ok (.dup, 1) := by decide +kernel
theorem dX4_readPower_19 : decode cX4_readPower 19 = .ok (.getfield 33, 3) := by decide +kernel
theorem dX4_readPower_22 : decode cX4_readPower 22 = .ok (.iconst 1, 1) := by decide +kernel
theorem dX4_readPower_23 : decode cX4_readPower 23 = .ok (.iadd, 1) := by decide +kernel
theorem dX4_readPower_24 : decode cX4_readPower 24 = .ok (.putfield 33, 3) := by decide +kernel
theorem dX4_readPower_27 : decode cX4_readPower 27 = .ok (.aload_n 0, 1) := by decide +kernel
theorem dX4_readPower_28 : decode cX4_readPower 28 = .ok (.getfield 12, 3) := by decide +kernel
theorem dX4_readPower_31 : decode cX4_readPower 31 = .ok (.aload_n 0, 1) := by decide +kernel
theorem dX4_readPower_32 : decode cX4_readPower 32 = .ok (.getfield 33, 3) := by decide +kernel
theorem dX4_readPower_35 : decode cX4_readPower 35 = .ok (.invokevirtual 72, 3) := by decide +kernel
theorem dX4_readPower_38 : decode cX4_readPower 38 = .ok (.ifCond .eq 30, 3) := by decide +kernel
theorem dX4_readPower_41 : decode cX4_readPower 41 = .ok (.bipush 10, 2) := by decide +kernel
theorem dX4_readPower_43 : decode cX4_readPower 43 = .ok (.iload_n 2, 1) := by decide +kernel
theorem dX4_readPower_44 : decode cX4_readPower 44 = .ok (.imul, 1) := by decide +kernel
theorem dX4_readPower_45 : decode cX4_readPower 45 = .ok (.aload_n 0, 1) := by decide +kernel
theorem dX4_readPower_46 : decode cX4_readPower 46 = .ok (.getfield 12, 3) := by decide +kernel
theorem dX4_readPower_49 : decode cX4_readPower 49 = .ok (.aload_n 0, 1) := by decide +kernel
theorem dX4_readPower_50 : decode cX4_readPower 50 = .ok (.getfield 33, 3) := by decide +kernel
theorem dX4_readPower_53 : decode cX4_readPower 53 = .ok (.invokevirtual 76, 3) := by decide +kernel
theorem dX4_readPower_56 : decode cX4_readPower 56 = .ok (.iadd, 1) := by decide +kernel
theorem dX4_readPower_57 : decode cX4_readPower 57 = .ok (.istore_n 2, 1) := by decide +kernel
theorem dX4_readPower_58 : decode cX4_readPower 58 = .ok (.aload_n 0, 1) := by decide +kernel
theorem dX4_readPower_59 : decode cX4_readPower 59 = .ok (.dup, 1) := by decide +kernel
theorem dX4_readPower_60 : decode cX4_readPower 60 = .ok (.getfield 33, 3) := by decide +kernel
theorem dX4_readPower_63 : decode cX4_readPower 63 = .ok (.iconst 1, 1) := by decide +kernel
theorem dX4_readPower_64 : decode cX4_readPower 64 = .ok (.iadd, 1) := by decide +kernel
theorem dX4_readPower_65 : decode cX4_readPower 65 = .ok (.putfield 33, 3) := by decide +kernel
theorem dX4_readPower_68 : decode cX4_readPower 68 = .ok (.iload_n 2, 1) := by decide +kernel
theorem dX4_readPower_69 : decode cX4_readPower 69 = .ok (.bipush 12, 2) := by decide +kernel
theorem dX4_readPower_71 : decode cX4_readPower 71 = .ok (.if_icmp .le 8, 3) := by decide +kernel
theorem dX4_readPower_74 : decode cX4_readPower 74 = .ok (.aload_n 0, 1) := by decide +kernel
theorem dX4_readPower_75 : decode cX4_readPower 75 = .ok (.iload_n 1, 1) := by decide +kernel
theorem dX4_readPower_76 : decode cX4_readPower 76 = .ok (.invokevirtual 82, 3) := by decide +kernel
theorem dX4_readPower_79 : decode cX4_readPower 79 = .ok (.aload_n 0, 1) := by decide +kernel
theorem dX4_readPower_80 : decode cX4_readPower 80 = .ok (.getfield 21, 3) := by decide +kernel
theorem dX4_readPower_83 : decode cX4_readPower 83 = .ok (.iload_n 2, 1) := by decide +kernel
theorem dX4_readPower_84 : decode cX4_readPower 84 = .ok (.invokevirtual 89, 3) := by decide +kernel
theorem dX4_readPower_87 : decode cX4_readPower 87 = .ok (.return_, 1) := by decide +kernel
set_option maxRecDepth 20000 in
theorem ggX4_readLeafCount_X7_isFigure : GoodIn wsX4_readLeafCount wsX7_isFigure := goodIn_r _ [10, 11, 12, 13, 9, 14, 15, 16, 42, 43] (by decide +kernel) (by decide +kernel)
set_option maxRecDepth 20000 in
theorem gX4_readLeafCount_X7_isFigure : GoodIn wsX4_readLeafCount (wsV RX4 72 RX7 yX7_isFigure wsX7_isFigure) := goodIn_app (goodIn_of _ (by decide +kernel)) ggX4_readLeafCount_X7_isFigure
set_option maxRecDepth 20000 in
theorem ggX4_readLeafCount_X7_figureAt : GoodIn wsX4_readLeafCount wsX7_figureAt := goodIn_r _ [20, 11, 12, 13, 9, 14, 15, 16, 42, 43] (by decide +kernel) (by decide +kernel)
set_option maxRecDepth 20000 in
theorem gX4_readLeafCount_X7_figureAt : GoodIn wsX4_readLeafCount (wsV RX4 76 RX7 yX7_figureAt wsX7_figureAt) := goodIn_app (goodIn_of _ (by decide +kernel)) ggX4_readLeafCount_X7_figureAt
set_option maxRecDepth 20000 in
theorem ggX4_readLeafCount_X6_isLeafCount : GoodIn wsX4_readLeafCount wsX6_isLeafCount := goodIn_r _ [24] (by decide +kernel) (by decide +kernel)
set_option maxRecDepth 20000 in
theorem gX4_readLeafCount_X6_isLeafCount : GoodIn wsX4_readLeafCount (va_wsS RX4 99 yX6_isLeafCount wsX6_isLeafCount) := goodIn_app (goodIn_of _ (by decide +kernel)) ggX4_readLeafCount_X6_isLeafCount
set_option maxRecDepth 20000 in
theorem ggX4_readLeafCount_X4_noteCannotBe : GoodIn wsX4_readLeafCount wsX4_noteCannotBe := goodIn_r _ [29, 30, 31, 32, 33, 34, 35, 36] (by decide +kernel) (by decide +kernel)
set_option maxRecDepth 20000 in
theorem gX4_readLeafCount_X4_noteCannotBe : GoodIn wsX4_readLeafCount (wsV RX4 82 RX4 yX4_noteCannotBe wsX4_noteCannotBe) := goodIn_app (goodIn_of _ (by decide +kernel)) ggX4_readLeafCount_X4_noteCannotBe
theorem dX4_readLeafCount_0 : decode cX4_readLeafCount 0 = .ok (.aload_n 0, 1) := by decide +kernel
theorem dX4_readLeafCount_1 : decode cX4_readLeafCount 1 = .ok (.getfield 12, 3) := by decide +kernel
theorem dX4_readLeafCount_4 : decode cX4_readLeafCount 4 = .ok (.aload_n 0, 1) := by decide +kernel
theorem dX4_readLeafCount_5 : decode cX4_readLeafCount 5 = .ok (.getfield 33, 3) := by decide +kernel
theorem dX4_readLeafCount_8 : decode cX4_readLeafCount 8 = .ok (.invokevirtual 72, 3) := by decide +kernel
theorem dX4_readLeafCount_11 : decode cX4_readLeafCount 11 = .ok (.ifCond .ne 5, 3) := by decide +kernel
theorem dX4_readLeafCount_14 : decode cX4_readLeafCount 14 = .ok (.iconst 0, 1) := by decide +kernel
theorem dX4_readLeafCount_15 : decode cX4_readLeafCount 15 = .ok (.ireturn, 1) := by decide +kernel
theorem dX4_readLeafCount_16 : decode cX4_readLeafCount 16 = .ok (.aload_n 0, 1) := by decide +kernel
theorem dX4_readLeafCount_17 : decode cX4_readLeafCount 17 = .ok (.getfield 21, 3) := by decide +kernel
theorem dX4_readLeafCount_20 : decode cX4_readLeafCount 20 = .ok (.aload_n 0, 1) := by decide +kernel
theorem dX4_readLeafCount_21 : decode cX4_readLeafCount 21 = .ok (.getfield 12, 3) := by decide +kernel
theorem dX4_readLeafCount_24 : decode cX4_readLeafCount 24 = .ok (.aload_n 0, 1) := by decide +kernel
theorem dX4_readLeafCount_25 : decode cX4_readLeafCount 25 = .ok (.getfield 33, 3) := by decide +kernel
theorem dX4_readLeafCount_28 : decode cX4_readLeafCount 28 = .ok (.invokevirtual 76, 3) := by decide +kernel
theorem dX4_readLeafCount_31 : decode cX4_readLeafCount 31 = .ok (.putfield 92, 3) := by decide +kernel
theorem dX4_readLeafCount_34 : decode cX4_readLeafCount 34 = .ok (.aload_n 0, 1) := by decide +kernel
theorem dX4_readLeafCount_35 : decode cX4_readLeafCount 35 = .ok (.getfield 21, 3) := by decide +kernel
theorem dX4_readLeafCount_38 : decode cX4_readLeafCount 38 = .ok (.lconst 0, 1) := by decide +kernel
theorem dX4_readLeafCount_39 : decode cX4_readLeafCount 39 = .ok (.putfield 95, 3) := by decide +kernel
theorem dX4_readLeafCount_42 : decode cX4_readLeafCount 42 = .ok (.aload_n 0, 1) := by decide +kernel
theorem dX4_readLeafCount_43 : decode cX4_readLeafCount 43 = .ok (.getfield 21, 3) := by decide +kernel
theorem dX4_readLeafCount_46 : decode cX4_readLeafCount 46 = .ok (.getfield 92, 3) := by decide +kernel
theorem dX4_readLeafCount_49 : decode cX4_readLeafCount 49 = .ok (.invokestatic 99, 3) := by decide +kernel
theorem dX4_readLeafCount_52 : decode cX4_readLeafCount 52 = .ok (.ifCond .ne 11, 3) := by decide +kernel
theorem dX4_readLeafCount_55 : decode cX4_readLeafCount 55 = .ok (.aload_n 0, 1) := by decide +kernel
theorem dX4_readLeafCount_56 : decode cX4_readLeafCount 56 = .ok (.aload_n 0, 1) := by decide +kernel
theorem dX4_readLeafCount_57 : decode cX4_readLeafCount 57 = .ok (.getfield 33, 3) := by decide +kernel
theorem dX4_readLeafCount_60 : decode cX4_readLeafCount 60 = .ok (.invokevirtual 82, 3) := by decide +kernel
theorem dX4_readLeafCount_63 : decode cX4_readLeafCount 63 = .ok (.aload_n 0, 1) := by decide +kernel
theorem dX4_readLeafCount_64 : decode cX4_readLeafCount 64 = .ok (.dup, 1) := by decide +kernel
theorem dX4_readLeafCount_65 : decode cX4_readLeafCount 65 = .ok (.getfield 33, 3) := by decide +kernel
theorem dX4_readLeafCount_68 : decode cX4_readLeafCount 68 = .ok (.iconst 1, 1) := by decide +kernel
theorem dX4_readLeafCount_69 : decode cX4_readLeafCount 69 = .ok (.iadd, 1) := by decide +kernel
theorem dX4_readLeafCount_70 : decode cX4_readLeafCount 70 = .ok (.putfield 33, 3) := by decide +kernel
theorem dX4_readLeafCount_73 : decode cX4_readLeafCount 73 = .ok (.iconst 1, 1) := by decide +kernel
theorem dX4_readLeafCount_74 : decode cX4_readLeafCount 74 = .ok (.ireturn, 1) := by decide +kernel
set_option maxRecDepth 20000 in
theorem ggX4_readSplits_X4_readSign : GoodIn wsX4_readSplits wsX4_readSign := goodIn_r _ [5, 6, 7, 8, 9, 10, 11, 12, 13, 14, 75, 76, 77, 78, 79, 80, 81, 82] (by decide +kernel) (by decide +kernel)
set_option maxRecDepth 20000 in
theorem gX4_readSplits_X4_readSign : GoodIn wsX4_readSplits (wsV RX4 54 RX4 yX4_readSign wsX4_readSign) := goodIn_app (goodIn_of _ (by decide +kernel)) ggX4_readSplits_X4_readSign
set_option maxRecDepth 20000 in
theorem ggX4_readSplits_X4_readSplit : GoodIn wsX4_readSplits wsX4_readSplit := goodIn_r _ [18, 7, 6, 19, 20, 21, 22, 23, 24, 11, 25, 26, 9, 10, 12, 13, 14, 27, 28, 29, 30, 31, 32, 33, 34, 35, 36, 37, 38, 39, 40, 41, 42, 43, 44, 45, 46, 47, 48, 49, 50, 51, 52, 53, 54, 55, 56, 57, 58, 59, 60, 61, 62, 63, 64, 65, 66, 67, 68, 69, 70, 71, 72, 4, 73, 74, 75, 76, 77, 78, 79, 80, 83, 84, 85, 86, 87, 81, 82] (by decide +kernel) (by decide +kernel)
set_option maxRecDepth 20000 in
theorem gX4_readSplits_X4_readSplit : GoodIn wsX4_readSplits (wsV RX4 104 RX4 yX4_readSplit wsX4_readSplit) := goodIn_app (goodIn_of _ (by decide +kernel)) ggX4_readSplits_X4_readSplit
theorem dX4_readSplits_0 : decode cX4_readSplits 0 = .ok (.iconst 0, 1) := by decide +kernel
theorem dX4_readSplits_1 : decode cX4_readSplits 1 = .ok (.istore_n 1, 1) := by decide +kernel
theorem dX4_readSplits_2 : decode cX4_readSplits 2 = .ok (.iload_n 1, 1) := by decide +kernel
theorem dX4_readSplits_3 : decode cX4_readSplits 3 = .ok (.iconst 3, 1) := by decide +kernel
theorem dX4_readSplits_4 : decode cX4_readSplits 4 = .ok (.if_icmp .ge 27, 3) := by decide +kernel
theorem dX4_readSplits_7 : decode cX4_readSplits 7 = .ok (.aload_n 0, 1) := by decide +kernel
theorem dX4_readSplits_8 : decode cX4_readSplits 8 = .ok (.bipush 59, 2) := by decide +kernel
theorem dX4_readSplits_10 : decode cX4_readSplits 10 = .ok (.invokevirtual 54, 3) := by decide +kernel
theorem dX4_readSplits_13 : decode cX4_readSplits 13 = .ok (.ifCond .eq 18, 3) := by decide +kernel
theorem dX4_readSplits_16 : decode cX4_readSplits 16 = .ok (.aload_n 0, 1) := by decide +kernel
theorem dX4_readSplits_17 : decode cX4_readSplits 17 = .ok (.invokevirtual 104, 3) := by decide +kernel
theorem dX4_readSplits_20 : decode cX4_readSplits 20 = .ok (.ifCond .ne 5, 3) := by decide +kernel
theorem dX4_readSplits_23 : decode cX4_readSplits 23 = .ok (.iconst 0, 1) := by decide +kernel
theorem dX4_readSplits_24 : decode cX4_readSplits 24 = .ok (.ireturn, 1) := by decide +kernel
theorem dX4_readSplits_25 : decode cX4_readSplits 25 = .ok (.iinc 1 1, 3) := by decide +kernel
theorem dX4_readSplits_28 : decode cX4_readSplits 28 = .ok (.goto (-26), 3) := by decide +kernel
theorem dX4_readSplits_31 : decode cX4_readSplits 31 = .ok (.iconst 1, 1) := by decide +kernel
theorem dX4_readSplits_32 : decode cX4_readSplits 32 = .ok (.ireturn, 1) := by decide +kernel
set_option maxRecDepth 20000 in
theorem ggX4_readSplit_X7_isFigure : GoodIn wsX4_readSplit wsX7_isFigure := goodIn_r _ [10, 11, 12, 13, 9, 14, 15, 16, 77, 78] (by decide +kernel) (by decide +kernel)
set_option maxRecDepth 20000 in
theorem gX4_readSplit_X7_isFigure : GoodIn wsX4_readSplit (wsV RX4 72 RX7 yX7_isFigure wsX7_isFigure) := goodIn_app (goodIn_of _ (by decide +kernel)) ggX4_readSplit_X7_isFigure
set_option maxRecDepth 20000 in
theorem ggX4_readSplit_X7_figureAt : GoodIn wsX4_readSplit wsX7_figureAt := goodIn_r _ [20, 11, 12, 13, 9, 14, 15, 16, 77, 78] (by decide +kernel) (by decide +kernel)
set_option maxRecDepth 20000 in
theorem gX4_readSplit_X7_figureAt : GoodIn wsX4_readSplit (wsV RX4 76 RX7 yX7_figureAt wsX7_figureAt) := goodIn_app (goodIn_of _ (by decide +kernel)) ggX4_readSplit_X7_figureAt
set_option maxRecDepth 20000 in
theorem ggX4_readSplit_X6_isSplit : GoodIn wsX4_readSplit wsX6_isSplit := goodIn_r _ [24, 25, 26, 23, 27, 28, 29, 30, 31, 32, 33, 34] (by decide +kernel) (by decide +kernel)
set_option maxRecDepth 20000 in
theorem gX4_readSplit_X6_isSplit : GoodIn wsX4_readSplit (va_wsS RX4 107 yX6_isSplit wsX6_isSplit) := goodIn_app (goodIn_of _ (by decide +kernel)) ggX4_readSplit_X6_isSplit
set_option maxRecDepth 20000 in
theorem ggX4_readSplit_X6_fits : GoodIn wsX4_readSplit wsX6_fits := goodIn_r _ [37, 38, 39, 23, 40, 41, 42, 43, 44, 45, 46, 47, 48, 49, 50, 51, 52, 53, 54, 55, 56] (by decide +kernel) (by decide +kernel)
set_option maxRecDepth 20000 in
theorem gX4_readSplit_X6_fits : GoodIn wsX4_readSplit (va_wsS RX4 111 yX6_fits wsX6_fits) := goodIn_app (goodIn_of _ (by decide +kernel)) ggX4_readSplit_X6_fits
set_option maxRecDepth 20000 in
theorem ggX4_readSplit_X6_with : GoodIn wsX4_readSplit wsX6_with := goodIn_r _ [59] (by decide +kernel) (by decide +kernel)
set_option maxRecDepth 20000 in
theorem gX4_readSplit_X6_with : GoodIn wsX4_readSplit (va_wsS RX4 115 yX6_with wsX6_with) := goodIn_app (goodIn_of _ (by decide +kernel)) ggX4_readSplit_X6_with
set_option maxRecDepth 20000 in
theorem ggX4_readSplit_X4_noteCannotBe : GoodIn wsX4_readSplit wsX4_noteCannotBe := goodIn_r _ [64, 65, 66, 67, 68, 69, 70, 71] (by decide +kernel) (by decide +kernel)
set_option maxRecDepth 20000 in
theorem gX4_readSplit_X4_noteCannotBe : GoodIn wsX4_readSplit (wsV RX4 82 RX4 yX4_noteCannotBe wsX4_noteCannotBe) := goodIn_app (goodIn_of _ (by decide +kernel)) ggX4_readSplit_X4_noteCannotBe
theorem dX4_readSplit_0 : decode cX4_readSplit 0 = .ok (.aload_n 0, 1) := by decide +kernel
theorem dX4_readSplit_1 : decode cX4_readSplit 1 = .ok (.getfield 33, 3) := by decide +kernel
theorem dX4_readSplit_4 : decode cX4_readSplit 4 = .ok (.istore_n 1, 1) := by decide +kernel
theorem dX4_readSplit_5 : decode cX4_readSplit 5 = .ok (.iconst (-1), 1) := by decide +kernel
theorem dX4_readSplit_6 : decode cX4_readSplit 6 = .ok (.istore_n 2, 1) := by decide +kernel
theorem dX4_readSplit_7 : decode cX4_readSplit 7 = .ok (.iconst 0, 1) := by decide +kernel
theorem dX4_readSplit_8 : decode cX4_readSplit 8 = .ok (.istore_n 3, 1) := by decide +kernel
theorem dX4_readSplit_9 : decode cX4_readSplit 9 = .ok (.iconst 0, 1) := by decide +kernel
theorem dX4_readSplit_10 : decode cX4_readSplit 10 = .ok (.istore 4, 2) := by decide +kernel
theorem dX4_readSplit_12 : decode cX4_readSplit 12 = .ok (.iload 4, 2) := by decide +kernel
theorem dX4_readSplit_14 : decode cX4_readSplit 14 = .ok (.iconst 4, 1) := by decide +kernel
theorem dX4_readSplit_15 : decode cX4_readSplit 15 = .ok (.if_icmp .ge 69, 3) := by decide +kernel
theorem dX4_readSplit_18 : decode cX4_readSplit 18 = .ok (.aload_n 0, 1) := by decide +kernel
theorem dX4_readSplit_19 : decode cX4_readSplit 19 = .ok (.getfield 12, 3) := by decide +kernel
theorem dX4_readSplit_22 : decode cX4_readSplit 22 = .ok (.aload_n 0, 1) := by decide +kernel
theorem dX4_readSplit_23 : decode cX4_readSplit 23 = .ok (.getfield 33, 3) := by decide +kernel
theorem dX4_readSplit_26 : decode cX4_readSplit 26 = .ok (.invokevirtual 72, 3) := by decide +kernel
theorem dX4_readSplit_29 : decode cX4_readSplit 29 = .ok (.ifCond .eq 55, 3) := by decide +kernel
theorem dX4_readSplit_32 : decode cX4_readSplit 32 = .ok (.aload_n 0, 1) := by decide +kernel
theorem dX4_readSplit_33 : decode cX4_readSplit 33 = .ok (.getfield 12, 3) := by decide +kernel
theorem dX4_readSplit_36 : decode cX4_readSplit 36 = .ok (.aload_n 0, 1) := by decide +kernel
theorem dX4_readSplit_37 : decode cX4_readSplit 37 = .ok (.getfield 33, 3) := by decide +kernel
theorem dX4_readSplit_40 : decode cX4_readSplit 40 = .ok (.invokevirtual 76, 3) := by decide +kernel
theorem dX4_readSplit_43 : decode cX4_readSplit 43 = .ok (.iload_n 2, 1) := by decide +kernel
theorem dX4_readSplit_44 : decode cX4_readSplit 44 = .ok (.if_icmp .gt 6, 3) := by decide +kernel
theorem dX4_readSplit_47 : decode cX4_readSplit 47 = .ok (.goto 37, 3) := by decide +kernel
theorem dX4_readSplit_50 : decode cX4_readSplit 50 = .ok (.aload_n 0, 1) := by decide +kernel
theorem dX4_readSplit_51 : decode cX4_readSplit 51 = .ok (.getfield 12, 3) := by decide +kernel
theorem dX4_readSplit_54 : decode cX4_readSplit 54 = .ok (.aload_n 0, 1) := by decide +kernel
theorem dX4_readSplit_55 : decode cX4_readSplit 55 = .ok (.getfield 33, 3) := by decide +kernel
theorem dX4_readSplit_58 : decode cX4_readSplit 58 = .ok (.invokevirtual 76, 3) := by decide +kernel
theorem dX4_readSplit_61 : decode cX4_readSplit 61 = .ok (.istore_n 2, 1) := by decide +kernel
theorem dX4_readSplit_62 : decode cX4_readSplit 62 = .ok (.iload_n 3, 1) := by decide +kernel
theorem dX4_readSplit_63 : decode cX4_readSplit 63 = .ok (.iconst 1, 1) := by decide +kernel
theorem dX4_readSplit_64 : decode cX4_readSplit 64 = .ok (.iload_n 2, 1) := by decide +kernel
theorem dX4_readSplit_65 : decode cX4_readSplit 65 = .ok (.ishl, 1) := by decide +kernel
theorem dX4_readSplit_66 : decode cX4_readSplit 66 = .ok (.ior, 1) := by decide +kernel
theorem dX4_readSplit_67 : decode cX4_readSplit 67 = .ok (.istore_n 3, 1) := by decide +kernel
theorem dX4_readSplit_68 : decode cX4_readSplit 68 = .ok (.aload_n 0, 1) := by decide +kernel
theorem dX4_readSplit_69 : decode cX4_readSplit 69 = .ok (.dup, 1) := by decide +kernel
theorem dX4_readSplit_70 : decode cX4_readSplit 70 = .ok (.getfield 33, 3) := by decide +kernel
theorem dX4_readSplit_73 : decode cX4_readSplit 73 = .ok (.iconst 1, 1) := by decide +kernel
theorem dX4_readSplit_74 : decode cX4_readSplit 74 = .ok (.iadd, 1) := by decide +kernel
theorem dX4_readSplit_75 : decode cX4_readSplit 75 = .ok (.putfield 33, 3) := by decide +kernel
theorem dX4_readSplit_78 : decode cX4_readSplit 78 = .ok (.iinc 4 1, 3) := by decide +kernel
theorem dX4_readSplit_81 : decode cX4_readSplit 81 = .ok (.goto (-69), 3) := by decide +kernel
theorem dX4_readSplit_84 : decode cX4_readSplit 84 = .ok (.aload_n 0, 1) := by decide +kernel
theorem dX4_readSplit_85 : decode cX4_readSplit 85 = .ok (.getfield 33, 3) := by decide +kernel
theorem dX4_readSplit_88 : decode cX4_readSplit 88 = .ok (.iload_n 1, 1) := by decide +kernel
theorem dX4_readSplit_89 : decode cX4_readSplit 89 = .ok (.isub, 1) := by decide +kernel
theorem dX4_readSplit_90 : decode cX4_readSplit 90 = .ok (.iconst 2, 1) := by decide +kernel
theorem dX4_readSplit_91 : decode cX4_readSplit 91 = .ok (.if_icmp .ge 5, 3) := by decide +kernel
theorem dX4_readSplit_94 : decode cX4_readSplit 94 = .ok (.iconst 0, 1) := by decide +kernel
theorem dX4_readSplit_95 : decode cX4_readSplit 95 = .ok (.ireturn, 1) := by decide +kernel
theorem dX4_readSplit_96 : decode cX4_readSplit 96 = .ok (.iload_n 3, 1) := by decide +kernel
theorem dX4_readSplit_97 : decode cX4_readSplit 97 = .ok (.aload_n 0, 1) := by decide +kernel
theorem dX4_readSplit_98 : decode cX4_readSplit 98 = .ok (.getfield 21, 3) := by decide +kernel
theorem dX4_readSplit_101 : decode cX4_readSplit 101 = .ok (.getfield 92, 3) := by decide +kernel
theorem dX4_readSplit_104 : decode cX4_readSplit 104 = .ok (.invokestatic 107, 3) := by decide +kernel
theorem dX4_readSplit_107 : decode cX4_readSplit 107 = .ok (.ifCond .eq 38, 3) := by decide +kernel
theorem dX4_readSplit_110 : decode cX4_readSplit 110 = .ok (.aload_n 0, 1) := by decide +kernel
theorem dX4_readSplit_111 : decode cX4_readSplit 111 = .ok (.getfield 21, 3) := by decide +kernel
theorem dX4_readSplit_114 : decode cX4_readSplit 114 = .ok (.getfield 95, 3) := by decide +kernel
theorem dX4_readSplit_117 : decode cX4_readSplit 117 = .ok (.iload_n 3, 1) := by decide +kernel
theorem dX4_readSplit_118 : decode cX4_readSplit 118 = .ok (.invokestatic 111, 3) := by decide +kernel
theorem dX4_readSplit_121 : decode cX4_readSplit 121 = .ok (.ifCond .eq 24, 3) := by decide +kernel
theorem dX4_readSplit_124 : decode cX4_readSplit 124 = .ok (.aload_n 0, 1) := by decide +kernel
theorem dX4_readSplit_125 : decode cX4_readSplit 125 = .ok (.getfield 21, 3) := by decide +kernel
theorem dX4_readSplit_128 : decode cX4_readSplit 128 = .ok (.aload_n 0, 1) := by decide +kernel
theorem dX4_readSplit_129 : decode cX4_readSplit 129 = .ok (.getfield 21, 3) := by decide +kernel
theorem dX4_readSplit_132 : decode cX4_readSplit 132 = .ok (.getfield 95, 3) := by decide +kernel
theorem dX4_readSplit_135 : decode cX4_readSplit 135 = .ok (.iload_n 3, 1) := by decide +kernel
theorem dX4_readSplit_136 : decode cX4_readSplit 136 = .ok (.invokestatic 115, 3) := by decide +kernel
theorem dX4_readSplit_139 : decode cX4_readSplit 139 = .ok (.putfield 95, 3) := by decide +kernel
theorem dX4_readSplit_142 : decode cX4_readSplit 142 = .ok (.goto 8, 3) := by decide +kernel
theorem dX4_readSplit_145 : decode cX4_readSplit 145 = .ok (.aload_n 0, 1) := by decide +kernel
theorem dX4_readSplit_146 : decode cX4_readSplit 146 = .ok (.iload_n 1, 1) := by decide +kernel
theorem dX4_readSplit_147 : decode cX4_readSplit 147 = .ok (.invokevirtual 82, 3) := by decide +kernel
theorem dX4_readSplit_150 : decode cX4_readSplit 150 = .ok (.iconst 1, 1) := by decide +kernel
theorem dX4_readSplit_151 : decode cX4_readSplit 151 = .ok (.ireturn, 1) := by decide +kernel
theorem dX4_noteCannotBe_0 : decode cX4_noteCannotBe 0 = .ok (.aload_n 0, 1) := by decide +kernel
theorem dX4_noteCannotBe_1 : decode cX4_noteCannotBe 1 = .ok (.getfield 37, 3) := by decide +kernel
theorem dX4_noteCannotBe_4 : decode cX4_noteCannotBe 4 = .ok (.iconst (-1), 1) := by decide +kernel
theorem dX4_noteCannotBe_5 : decode cX4_noteCannotBe 5 = .ok (.if_icmp .ne 8, 3) := by decide +kernel
theorem dX4_noteCannotBe_8 : decode cX4_noteCannotBe 8 = .ok (.aload_n 0, 1) := by decide +kernel
theorem dX4_noteCannotBe_9 : decode cX4_noteCannotBe 9 = .ok (.iload_n 1, 1) := by decide +kernel
theorem dX4_noteCannotBe_10 : decode cX4_noteCannotBe 10 = .ok (.putfield 37, 3) := by decide +kernel
theorem dX4_noteCannotBe_13 : decode cX4_noteCannotBe 13 = .ok (.return_, 1) := by decide +kernel
set_option maxRecDepth 20000 in
theorem ggX4_keepWhy_X4_sortOf : GoodIn wsX4_keepWhy wsX4_sortOf := goodIn_r _ [9, 3, 10, 11, 12, 13, 14, 15, 16, 17, 18, 19, 20, 29, 30, 31, 32, 33, 34, 35, 36] (by decide +kernel) (by decide +kernel)
set_option maxRecDepth 20000 in
theorem gX4_keepWhy_X4_sortOf : GoodIn wsX4_keepWhy (wsV RX4 123 RX4 yX4_sortOf wsX4_sortOf) := goodIn_app (goodIn_of _ (by decide +kernel)) ggX4_keepWhy_X4_sortOf
set_option maxRecDepth 20000 in
theorem ggX4_keepWhy_X4_signsAhead : GoodIn wsX4_keepWhy wsX4_signsAhead := goodIn_r _ [24, 3, 25, 26, 27, 13, 28, 15, 16, 17, 18, 19, 20, 29, 30, 31, 32, 33, 34, 35, 36] (by decide +kernel) (by decide +kernel)
set_option maxRecDepth 20000 in
theorem gX4_keepWhy_X4_signsAhead : GoodIn wsX4_keepWhy (wsV RX4 126 RX4 yX4_signsAhead wsX4_signsAhead) := goodIn_app (goodIn_of _ (by decide +kernel)) ggX4_keepWhy_X4_signsAhead
theorem dX4_keepWhy_0 : decode cX4_keepWhy 0 = .ok (.aload_n 0, 1) := by decide +kernel
theorem dX4_keepWhy_1 : decode cX4_keepWhy 1 = .ok (.iconst 1, 1) := by decide +kernel
theorem dX4_keepWhy_2 : decode cX4_keepWhy 2 = .ok (.putfield 119, 3) := by decide +kernel
theorem dX4_keepWhy_5 : decode cX4_keepWhy 5 = .ok (.aload_n 0, 1) := by decide +kernel
theorem dX4_keepWhy_6 : decode cX4_keepWhy 6 = .ok (.getfield 25, 3) := by decide +kernel
theorem dX4_keepWhy_9 : decode cX4_keepWhy 9 = .ok (.iconst 0, 1) := by decide +kernel
theorem dX4_keepWhy_10 : decode cX4_keepWhy 10 = .ok (.iconst 1, 1) := by decide +kernel
theorem dX4_keepWhy_11 : decode cX4_keepWhy 11 = .ok (.iastore, 1) := by decide +kernel
theorem dX4_keepWhy_12 : decode cX4_keepWhy 12 = .ok (.aload_n 0, 1) := by decide +kernel
theorem dX4_keepWhy_13 : decode cX4_keepWhy 13 = .ok (.getfield 25, 3) := by decide +kernel
theorem dX4_keepWhy_16 : decode cX4_keepWhy 16 = .ok (.iconst 1, 1) := by decide +kernel
theorem dX4_keepWhy_17 : decode cX4_keepWhy 17 = .ok (.aload_n 0, 1) := by decide +kernel
theorem dX4_keepWhy_18 : decode cX4_keepWhy 18 = .ok (.getfield 12, 3) := by decide +kernel
theorem dX4_keepWhy_21 : decode cX4_keepWhy 21 = .ok (.getfield 67, 3) := by decide +kernel
theorem dX4_keepWhy_24 : decode cX4_keepWhy 24 = .ok (.iastore, 1) := by decide +kernel
theorem dX4_keepWhy_25 : decode cX4_keepWhy 25 = .ok (.aload_n 0, 1) := by decide +kernel
theorem dX4_keepWhy_26 : decode cX4_keepWhy 26 = .ok (.getfield 25, 3) := by decide +kernel
theorem dX4_keepWhy_29 : decode cX4_keepWhy 29 = .ok (.iconst 2, 1) := by decide +kernel
theorem dX4_keepWhy_30 : decode cX4_keepWhy 30 = .ok (.aload_n 0, 1) := by decide +kernel
theorem dX4_keepWhy_31 : decode cX4_keepWhy 31 = .ok (.iload_n 2, 1) := by decide +kernel
theorem dX4_keepWhy_32 : decode cX4_keepWhy 32 = .ok (.invokevirtual 123, 3) := by decide +kernel
theorem dX4_keepWhy_35 : decode cX4_keepWhy 35 = .ok (.iastore, 1) := by decide +kernel
theorem dX4_keepWhy_36 : decode cX4_keepWhy 36 = .ok (.aload_n 0, 1) := by decide +kernel
theorem dX4_keepWhy_37 : decode cX4_keepWhy 37 = .ok (.getfield 25, 3) := by decide +kernel
theorem dX4_keepWhy_40 : decode cX4_keepWhy 40 = .ok (.iconst 3, 1) := by decide +kernel
theorem dX4_keepWhy_41 : decode cX4_keepWhy 41 = .ok (.aload_n 0, 1) := by decide +kernel
theorem dX4_keepWhy_42 : decode cX4_keepWhy 42 = .ok (.aload_n 0, 1) := by decide +kernel
theorem dX4_keepWhy_43 : decode cX4_keepWhy 43 = .ok (.getfield 25, 3) := by decide +kernel
theorem dX4_keepWhy_46 : decode cX4_keepWhy 46 = .ok (.iconst 2, 1) := by decide +kernel
theorem dX4_keepWhy_47 : decode cX4_keepWhy 47 = .ok (.iaload, 1) := by decide +kernel
theorem dX4_keepWhy_48 : decode cX4_keepWhy 48 = .ok (.iload_n 2, 1) := by decide +kernel
theorem dX4_keepWhy_49 : decode cX4_keepWhy 49 = .ok (.invokevirtual 126, 3) := by decide +kernel
theorem dX4_keepWhy_52 : decode cX4_keepWhy 52 = .ok (.iastore, 1) := by decide +kernel
theorem dX4_keepWhy_53 : decode cX4_keepWhy 53 = .ok (.aload_n 0, 1) := by decide +kernel
theorem dX4_keepWhy_54 : decode cX4_keepWhy 54 = .ok (.getfield 25, 3) := by decide +kernel
theorem dX4_keepWhy_57 : decode cX4_keepWhy 57 = .ok (.iconst 4, 1) := by decide +kernel
theorem dX4_keepWhy_58 : decode cX4_keepWhy 58 = .ok (.iload_n 1, 1) := by decide +kernel
theorem dX4_keepWhy_59 : decode cX4_keepWhy 59 = .ok (.iastore, 1) := by decide +kernel
theorem dX4_keepWhy_60 : decode cX4_keepWhy 60 = .ok (.aload_n 0, 1) := by decide +kernel
theorem dX4_keepWhy_61 : decode cX4_keepWhy 61 = .ok (.getfield 25, 3) := by decide +kernel
theorem dX4_keepWhy_64 : decode cX4_keepWhy 64 = .ok (.iconst 5, 1) := by decide +kernel
theorem dX4_keepWhy_65 : decode cX4_keepWhy 65 = .ok (.iload_n 2, 1) := by decide +kernel
theorem dX4_keepWhy_66 : decode cX4_keepWhy 66 = .ok (.iastore, 1) := by decide +kernel
theorem dX4_keepWhy_67 : decode cX4_keepWhy 67 = .ok (.return_, 1) := by decide +kernel
set_option maxRecDepth 20000 in
theorem ggX4_sortOf_X7_firstOf : GoodIn wsX4_sortOf wsX7_firstOf := goodIn_r _ [6, 7, 8, 9, 5, 10, 11, 12, 19, 20] (by decide +kernel) (by decide +kernel)
set_option maxRecDepth 20000 in
theorem gX4_sortOf_X7_firstOf : GoodIn wsX4_sortOf (wsV RX4 130 RX7 yX7_firstOf wsX7_firstOf) := goodIn_app (goodIn_of _ (by decide +kernel)) ggX4_sortOf_X7_firstOf
theorem dX4_sortOf_0 : decode cX4_sortOf 0 = .ok (.iload_n 1, 1) := by decide +kernel
theorem dX4_sortOf_1 : decode cX4_sortOf 1 = .ok (.ifCond .ne 5, 3) := by decide +kernel
theorem dX4_sortOf_4 : decode cX4_sortOf 4 = .ok (.iconst 2, 1) := by decide +kernel
theorem dX4_sortOf_5 : decode cX4_sortOf 5 = .ok (.ireturn, 1) := by decide +kernel
theorem dX4_sortOf_6 : decode cX4_sortOf 6 = .ok (.aload_n 0, 1) := by decide +kernel
theorem dX4_sortOf_7 : decode cX4_sortOf 7 = .ok (.getfield 12, 3) := by decide +kernel
theorem dX4_sortOf_10 : decode cX4_sortOf 10 = .ok (.bipush 47, 2) := by decide +kernel
theorem dX4_sortOf_12 : decode cX4_sortOf 12 = .ok (.iload_n 1, 1) := by decide +kernel
theorem dX4_sortOf_13 : decode cX4_sortOf 13 = .ok (.invokevirtual 130, 3) := by decide +kernel
theorem dX4_sortOf_16 : decode cX4_sortOf 16 = .ok (.istore_n 2, 1) := by decide +kernel
theorem dX4_sortOf_17 : decode cX4_sortOf 17 = .ok (.iload_n 2, 1) := by decide +kernel
theorem dX4_sortOf_18 : decode cX4_sortOf 18 = .ok (.iconst (-1), 1) := by decide +kernel
theorem dX4_sortOf_19 : decode cX4_sortOf 19 = .ok (.if_icmp .ne 5, 3) := by decide +kernel
theorem dX4_sortOf_22 : decode cX4_sortOf 22 = .ok (.iconst 3, 1) := by decide +kernel
theorem dX4_sortOf_23 : decode cX4_sortOf 23 = .ok (.ireturn, 1) := by decide +kernel
theorem dX4_sortOf_24 : decode cX4_sortOf 24 = .ok (.iload_n 1, 1) := by decide +kernel
theorem dX4_sortOf_25 : decode cX4_sortOf 25 = .ok (.iload_n 2, 1) := by decide +kernel
theorem dX4_sortOf_26 : decode cX4_sortOf 26 = .ok (.iconst 1, 1) := by decide +kernel
theorem dX4_sortOf_27 : decode cX4_sortOf 27 = .ok (.iadd, 1) := by decide +kernel
theorem dX4_sortOf_28 : decode cX4_sortOf 28 = .ok (.if_icmp .ne 7, 3) := by decide +kernel
theorem dX4_sortOf_31 : decode cX4_sortOf 31 = .ok (.iconst 4, 1) := by decide +kernel
theorem dX4_sortOf_32 : decode cX4_sortOf 32 = .ok (.goto 4, 3) := by decide +kernel
theorem dX4_sortOf_35 : decode cX4_sortOf 35 = .ok (.iconst 5, 1) := by decide +kernel
theorem dX4_sortOf_36 : decode cX4_sortOf 36 = .ok (.ireturn, 1) := by decide +kernel
set_option maxRecDepth 20000 in
theorem ggX4_signsAhead_X7_timesAhead : GoodIn wsX4_signsAhead wsX7_timesAhead := goodIn_r _ [6, 7, 8, 9, 5, 10, 11, 12, 19, 20] (by decide +kernel) (by decide +kernel)
set_option maxRecDepth 20000 in
theorem gX4_signsAhead_X7_timesAhead : GoodIn wsX4_signsAhead (wsV RX4 134 RX7 yX7_timesAhead wsX7_timesAhead) := goodIn_app (goodIn_of _ (by decide +kernel)) ggX4_signsAhead_X7_timesAhead
theorem dX4_signsAhead_0 : decode cX4_signsAhead 0 = .ok (.iload_n 1, 1) := by decide +kernel
theorem dX4_signsAhead_1 : decode cX4_signsAhead 1 = .ok (.iconst 3, 1) := by decide +kernel
theorem dX4_signsAhead_2 : decode cX4_signsAhead 2 = .ok (.if_icmp .ne 14, 3) := by decide +kernel
theorem dX4_signsAhead_5 : decode cX4_signsAhead 5 = .ok (.aload_n 0, 1) := by decide +kernel
theorem dX4_signsAhead_6 : decode cX4_signsAhead 6 = .ok (.getfield 12, 3) := by decide +kernel
theorem dX4_signsAhead_9 : decode cX4_signsAhead 9 = .ok (.bipush 44, 2) := by decide +kernel
theorem dX4_signsAhead_11 : decode cX4_signsAhead 11 = .ok (.iload_n 2, 1) := by decide +kernel
theorem dX4_signsAhead_12 : decode cX4_signsAhead 12 = .ok (.invokevirtual 134, 3) := by decide +kernel
theorem dX4_signsAhead_15 : decode cX4_signsAhead 15 = .ok (.ireturn, 1) := by decide +kernel
theorem dX4_signsAhead_16 : decode cX4_signsAhead 16 = .ok (.iload_n 1, 1) := by decide +kernel
theorem dX4_signsAhead_17 : decode cX4_signsAhead 17 = .ok (.iconst 5, 1) := by decide +kernel
theorem dX4_signsAhead_18 : decode cX4_signsAhead 18 = .ok (.if_icmp .ne 16, 3) := by decide +kernel
theorem dX4_signsAhead_21 : decode cX4_signsAhead 21 = .ok (.aload_n 0, 1) := by decide +kernel
theorem dX4_signsAhead_22 : decode cX4_signsAhead 22 = .ok (.getfield 12, 3) := by decide +kernel
theorem dX4_signsAhead_25 : decode cX4_signsAhead 25 = .ok (.bipush 59, 2) := by decide +kernel
theorem dX4_signsAhead_27 : decode cX4_signsAhead 27 = .ok (.iload_n 2, 1) := by decide +kernel
theorem dX4_signsAhead_28 : decode cX4_signsAhead 28 = .ok (.invokevirtual 134, 3) := by decide +kernel
theorem dX4_signsAhead_31 : decode cX4_signsAhead 31 = .ok (.goto 4, 3) := by decide +kernel
theorem dX4_signsAhead_34 : decode cX4_signsAhead 34 = .ok (.iconst 0, 1) := by decide +kernel
theorem dX4_signsAhead_35 : decode cX4_signsAhead 35 = .ok (.ireturn, 1) := by decide +kernel
theorem dX5_init_0 : decode cX5_init 0 = .ok (.aload_n 0, 1) := by decide +kernel
theorem dX5_init_1 : decode cX5_init 1 = .ok (.invokespecial 3, 3) := by decide +kernel
theorem dX5_init_4 : decode cX5_init 4 = .ok (.aload_n 0, 1) := by decide +kernel
theorem dX5_init_5 : decode cX5_init 5 = .ok (.bipush 48, 2) := by decide +kernel
theorem dX5_init_7 : decode cX5_init 7 = .ok (.newarray .int, 2) := by decide +kernel
theorem dX5_init_9 : decode cX5_init 9 = .ok (.putfield 11, 3) := by decide +kernel
theorem dX5_init_12 : decode cX5_init 12 = .ok (.return_, 1) := by decide +kernel
theorem dX5_byteAt_0 : decode cX5_byteAt 0 = .ok (.iload_n 1, 1) := by decide +kernel
theorem dX5_byteAt_1 : decode cX5_byteAt 1 = .ok (.ifCond .lt 26, 3) := by decide +kernel
theorem dX5_byteAt_4 : decode cX5_byteAt 4 = .ok (.iload_n 1, 1) := by decide +kernel
theorem dX5_byteAt_5 : decode cX5_byteAt 5 = .ok (.aload_n 0, 1) := by decide +kernel
theorem dX5_byteAt_6 : decode cX5_byteAt 6 = .ok (.getfield 15, 3) := by decide +kernel
theorem dX5_byteAt_9 : decode cX5_byteAt 9 = .ok (.if_icmp .ge 18, 3) := by decide +kernel
theorem dX5_byteAt_12 : decode cX5_byteAt 12 = .ok (.iload_n 1, 1) := by decide +kernel
theorem dX5_byteAt_13 : decode cX5_byteAt 13 = .ok (.bipush 48, 2) := by decide +kernel
theorem dX5_byteAt_15 : decode cX5_byteAt 15 = .ok (.if_icmp .ge 12, 3) := by decide +kernel
theorem dX5_byteAt_18 : decode cX5_byteAt 18 = .ok (.aload_n 0, 1) := by decide +kernel
theorem dX5_byteAt_19 : decode cX5_byteAt 19 = .ok (.getfield 11, 3) := by decide +kernel
theorem dX5_byteAt_22 : decode cX5_byteAt 22 = .ok (.iload_n 1, 1) := by decide +kernel
theorem dX5_byteAt_23 : decode cX5_byteAt 23 = .ok (.iaload, 1) := by decide +kernel
theorem dX5_byteAt_24 : decode cX5_byteAt 24 = .ok (.goto 5, 3) := by decide +kernel
theorem dX5_byteAt_27 : decode cX5_byteAt 27 = .ok (.bipush (-2), 2) := by decide +kernel
theorem dX5_byteAt_29 : decode cX5_byteAt 29 = .ok (.ireturn, 1) := by decide +kernel
set_option maxRecDepth 20000 in
theorem ggX5_tell_X5_addFigure : GoodIn wsX5_tell wsX5_addFigure := goodIn_r _ [10, 11, 12, 13, 9, 14, 1, 15, 44, 45] (by decide +kernel) (by decide +kernel)
set_option maxRecDepth 20000 in
theorem gX5_tell_X5_addFigure : GoodIn wsX5_tell (wsV RX5 24 RX5 yX5_addFigure wsX5_addFigure) := goodIn_app (goodIn_of _ (by decide +kernel)) ggX5_tell_X5_addFigure
set_option maxRecDepth 20000 in
theorem ggX5_tell_X5_addByte : GoodIn wsX5_tell wsX5_addByte := goodIn_r _ [14, 1, 15, 44, 45] (by decide +kernel) (by decide +kernel)
set_option maxRecDepth 20000 in
theorem gX5_tell_X5_addByte : GoodIn wsX5_tell (wsV RX5 28 RX5 yX5_addByte wsX5_addByte) := goodIn_app (goodIn_of _ (by decide +kernel)) ggX5_tell_X5_addByte
set_option maxRecDepth 20000 in
theorem ggX5_tell_X1_powerAt : GoodIn wsX5_tell wsX1_powerAt := goodIn_r _ [20, 21, 46, 47, 48, 49, 50] (by decide +kernel) (by decide +kernel)
set_option maxRecDepth 20000 in
theorem gX5_tell_X1_powerAt : GoodIn wsX5_tell (wsV RX5 32 RX1 yX1_powerAt wsX1_powerAt) := goodIn_app (goodIn_of _ (by decide +kernel)) ggX5_tell_X1_powerAt
set_option maxRecDepth 20000 in
theorem ggX5_tell_X5_addPower : GoodIn wsX5_tell wsX5_addPower := goodIn_r _ [25, 6, 7, 8, 9, 10, 11, 12, 13, 14, 1, 15, 44, 45] (by decide +kernel) (by decide +kernel)
set_option maxRecDepth 20000 in
theorem gX5_tell_X5_addPower : GoodIn wsX5_tell (wsV RX5 36 RX5 yX5_addPower wsX5_addPower) := goodIn_app (goodIn_of _ (by decide +kernel)) ggX5_tell_X5_addPower
set_option maxRecDepth 20000 in
theorem ggX5_tell_X6_sizeOf : GoodIn wsX5_tell wsX6_sizeOf := goodIn_r _ [29, 30, 31, 32, 33, 34, 35, 36] (by decide +kernel) (by decide +kernel)
set_option maxRecDepth 20000 in
theorem gX5_tell_X6_sizeOf : GoodIn wsX5_tell (va_wsS RX5 46 yX6_sizeOf wsX6_sizeOf) := goodIn_app (goodIn_of _ (by decide +kernel)) ggX5_tell_X6_sizeOf
set_option maxRecDepth 20000 in
theorem ggX5_tell_X6_nth : GoodIn wsX5_tell wsX6_nth := goodIn_r _ [39, 30, 31, 32, 33, 34, 35, 36] (by decide +kernel) (by decide +kernel)
set_option maxRecDepth 20000 in
theorem gX5_tell_X6_nth : GoodIn wsX5_tell (va_wsS RX5 52 yX6_nth wsX6_nth) := goodIn_app (goodIn_of _ (by decide +kernel)) ggX5_tell_X6_nth
set_option maxRecDepth 20000 in
theorem ggX5_tell_X5_addSplit : GoodIn wsX5_tell wsX5_addSplit := goodIn_r _ [43, 11, 12, 13, 9, 14, 1, 15, 6, 7, 8, 10, 44, 45] (by decide +kernel) (by decide +kernel)
set_option maxRecDepth 20000 in
theorem gX5_tell_X5_addSplit : GoodIn wsX5_tell (wsV RX5 56 RX5 yX5_addSplit wsX5_addSplit) := goodIn_app (goodIn_of _ (by decide +kernel)) ggX5_tell_X5_addSplit
theorem dX5_tell_0 : decode cX5_tell 0 = .ok (.aload_n 0, 1) := by decide +kernel
theorem dX5_tell_1 : decode cX5_tell 1 = .ok (.iconst 0, 1) := by decide +kernel
theorem dX5_tell_2 : decode cX5_tell 2 = .ok (.putfield 15, 3) := by decide +kernel
theorem dX5_tell_5 : decode cX5_tell 5 = .ok (.aload_n 0, 1) := by decide +kernel
theorem dX5_tell_6 : decode cX5_tell 6 = .ok (.aload_n 1, 1) := by decide +kernel
theorem dX5_tell_7 : decode cX5_tell 7 = .ok (.getfield 19, 3) := by decide +kernel
theorem dX5_tell_10 : decode cX5_tell 10 = .ok (.invokevirtual 24, 3) := by decide +kernel
theorem dX5_tell_13 : decode cX5_tell 13 = .ok (.aload_n 0, 1) := by decide +kernel
theorem dX5_tell_14 : decode cX5_tell 14 = .ok (.bipush 58, 2) := by decide +kernel
theorem dX5_tell_16 : decode cX5_tell 16 = .ok (.invokevirtual 28, 3) := by decide +kernel
theorem dX5_tell_19 : decode cX5_tell 19 = .ok (.iconst 0, 1) := by decide +kernel
theorem dX5_tell_20 : decode cX5_tell 20 = .ok (.istore_n 2, 1) := by decide +kernel
theorem dX5_tell_21 : decode cX5_tell 21 = .ok (.iload_n 2, 1) := by decide +kernel
theorem dX5_tell_22 : decode cX5_tell 22 = .ok (.aload_n 1, 1) := by decide +kernel
theorem dX5_tell_23 : decode cX5_tell 23 = .ok (.getfield 31, 3) := by decide +kernel
theorem dX5_tell_26 : decode cX5_tell 26 = .ok (.if_icmp .ge 28, 3) := by decide +kernel
theorem dX5_tell_29 : decode cX5_tell 29 = .ok (.iload_n 2, 1) := by decide +kernel
theorem dX5_tell_30 : decode cX5_tell 30 = .ok (.ifCond .le 9, 3) := by decide +kernel
theorem dX5_tell_33 : decode cX5_tell 33 = .ok (.aload_n 0, 1) := by decide +kernel
theorem dX5_tell_34 : decode cX5_tell 34 = .ok (.bipush 44, 2) := by decide +kernel
theorem dX5_tell_36 : decode cX5_tell 36 = .ok (.invokevirtual 28, 3) := by decide +kernel
theorem dX5_tell_39 : decode cX5_tell 39 = .ok (.aload_n 0, 1) := by decide +kernel
theorem dX5_tell_40 : decode cX5_tell 40 = .ok (.aload_n 1, 1) := by decide +kernel
theorem dX5_tell_41 : decode cX5_tell 41 = .ok (.iload_n 2, 1) := by decide +kernel
theorem dX5_tell_42 : decode cX5_tell 42 = .ok (.invokevirtual 32, 3) := by decide +kernel
theorem dX5_tell_45 : decode cX5_tell 45 = .ok (.invokevirtual 36, 3) := by decide +kernel
theorem dX5_tell_48 : decode cX5_tell 48 = .ok (.iinc 2 1, 3) := by decide +kernel
theorem dX5_tell_51 : decode cX5_tell 51 = .ok (.goto (-30), 3) := by decide +kernel
theorem dX5_tell_54 : decode cX5_tell 54 = .ok (.aload_n 0, 1) := by decide +kernel
theorem dX5_tell_55 : decode cX5_tell 55 = .ok (.bipush 47, 2) := by decide +kernel
theorem dX5_tell_57 : decode cX5_tell 57 = .ok (.invokevirtual 28, 3) := by decide +kernel
theorem dX5_tell_60 : decode cX5_tell 60 = .ok (.aload_n 0, 1) := by decide +kernel
theorem dX5_tell_61 : decode cX5_tell 61 = .ok (.aload_n 1, 1) := by decide +kernel
theorem dX5_tell_62 : decode cX5_tell 62 = .ok (.getfield 39, 3) := by decide +kernel
theorem dX5_tell_65 : decode cX5_tell 65 = .ok (.invokevirtual 24, 3) := by decide +kernel
theorem dX5_tell_68 : decode cX5_tell 68 = .ok (.aload_n 1, 1) := by decide +kernel
theorem dX5_tell_69 : decode cX5_tell 69 = .ok (.getfield 42, 3) := by decide +kernel
theorem dX5_tell_72 : decode cX5_tell 72 = .ok (.invokestatic 46, 3) := by decide +kernel
theorem dX5_tell_75 : decode cX5_tell 75 = .ok (.istore_n 2, 1) := by decide +kernel
theorem dX5_tell_76 : decode cX5_tell 76 = .ok (.iconst 0, 1) := by decide +kernel
theorem dX5_tell_77 : decode cX5_tell 77 = .ok (.istore_n 3, 1) := by decide +kernel
theorem dX5_tell_78 : decode cX5_tell 78 = .ok (.iload_n 3, 1) := by decide +kernel
theorem dX5_tell_79 : decode cX5_tell 79 = .ok (.iload_n 2, 1) := by decide +kernel
theorem dX5_tell_80 : decode cX5_tell 80 = .ok (.if_icmp .ge 21, 3) := by decide +kernel
theorem dX5_tell_83 : decode cX5_tell 83 = .ok (.aload_n 0, 1) := by decide +kernel
theorem dX5_tell_84 : decode cX5_tell 84 = .ok (.aload_n 1, 1) := by decide +kernel
theorem dX5_tell_85 : decode cX5_tell 85 = .ok (.getfield 42, 3) := by decide +kernel
theorem dX5_tell_88 : decode cX5_tell 88 = .ok (.iload_n 3, 1) := by decide +kernel
theorem dX5_tell_89 : decode cX5_tell 89 = .ok (.invokestatic 52, 3) := by decide +kernel
theorem dX5_tell_92 : decode cX5_tell 92 = .ok (.invokevirtual 56, 3) := by decide +kernel
theorem dX5_tell_95 : decode cX5_tell 95 = .ok (.iinc 3 1, 3) := by decide +kernel
theorem dX5_tell_98 : decode cX5_tell 98 = .ok (.goto (-20), 3) := by decide +kernel
theorem dX5_tell_101 : decode cX5_tell 101 = .ok (.return_, 1) := by decide +kernel
set_option maxRecDepth 20000 in
theorem ggX5_addPower_X5_addFigure : GoodIn wsX5_addPower wsX5_addFigure := goodIn_r _ [5, 6, 7, 8, 4, 9, 10, 11, 12, 13] (by decide +kernel) (by decide +kernel)
set_option maxRecDepth 20000 in
theorem gX5_addPower_X5_addFigure : GoodIn wsX5_addPower (wsV RX5 24 RX5 yX5_addFigure wsX5_addFigure) := goodIn_app (goodIn_of _ (by decide +kernel)) ggX5_addPower_X5_addFigure
theorem dX5_addPower_0 : decode cX5_addPower 0 = .ok (.iload_n 1, 1) := by decide +kernel
theorem dX5_addPower_1 : decode cX5_addPower 1 = .ok (.bipush 10, 2) := by decide +kernel
theorem dX5_addPower_3 : decode cX5_addPower 3 = .ok (.if_icmp .lt 11, 3) := by decide +kernel
theorem dX5_addPower_6 : decode cX5_addPower 6 = .ok (.aload_n 0, 1) := by decide +kernel
theorem dX5_addPower_7 : decode cX5_addPower 7 = .ok (.iload_n 1, 1) := by decide +kernel
theorem dX5_addPower_8 : decode cX5_addPower 8 = .ok (.bipush 10, 2) := by decide +kernel
theorem dX5_addPower_10 : decode cX5_addPower 10 = .ok (.idiv, 1) := by decide +kernel
theorem dX5_addPower_11 : decode cX5_addPower 11 = .ok (.invokevirtual 24, 3) := by decide +kernel
theorem dX5_addPower_14 : decode cX5_addPower 14 = .ok (.aload_n 0, 1) := by decide +kernel
theorem dX5_addPower_15 : decode cX5_addPower 15 = .ok (.iload_n 1, 1) := by decide +kernel
theorem dX5_addPower_16 : decode cX5_addPower 16 = .ok (.bipush 10, 2) := by decide +kernel
theorem dX5_addPower_18 : decode cX5_addPower 18 = .ok (.irem, 1) := by decide +kernel
theorem dX5_addPower_19 : decode cX5_addPower 19 = .ok (.invokevirtual 24, 3) := by decide +kernel
theorem dX5_addPower_22 : decode cX5_addPower 22 = .ok (.return_, 1) := by decide +kernel
set_option maxRecDepth 20000 in
theorem ggX5_addSplit_X5_addByte : GoodIn wsX5_addSplit wsX5_addByte := goodIn_r _ [5, 6, 7, 12, 13] (by decide +kernel) (by decide +kernel)
set_option maxRecDepth 20000 in
theorem gX5_addSplit_X5_addByte : GoodIn wsX5_addSplit (wsV RX5 28 RX5 yX5_addByte wsX5_addByte) := goodIn_app (goodIn_of _ (by decide +kernel)) ggX5_addSplit_X5_addByte
set_option maxRecDepth 20000 in
theorem ggX5_addSplit_X5_addFigure : GoodIn wsX5_addSplit wsX5_addFigure := goodIn_r _ [11, 1, 2, 3, 4, 5, 6, 7, 12, 13] (by decide +kernel) (by decide +kernel)
set_option maxRecDepth 20000 in
theorem gX5_addSplit_X5_addFigure : GoodIn wsX5_addSplit (wsV RX5 24 RX5 yX5_addFigure wsX5_addFigure) := goodIn_app (goodIn_of _ (by decide +kernel)) ggX5_addSplit_X5_addFigure
theorem dX5_addSplit_0 : decode cX5_addSplit 0 = .ok (.aload_n 0, 1) := by decide +kernel
theorem dX5_addSplit_1 : decode cX5_addSplit 1 = .ok (.bipush 59, 2) := by decide +kernel
theorem dX5_addSplit_3 : decode cX5_addSplit 3 = .ok (.invokevirtual 28, 3) := by decide +kernel
theorem dX5_addSplit_6 : decode cX5_addSplit 6 = .ok (.iconst 0, 1) := by decide +kernel
theorem dX5_addSplit_7 : decode cX5_addSplit 7 = .ok (.istore_n 2, 1) := by decide +kernel
theorem dX5_addSplit_8 : decode cX5_addSplit 8 = .ok (.iload_n 2, 1) := by decide +kernel
theorem dX5_addSplit_9 : decode cX5_addSplit 9 = .ok (.bipush 6, 2) := by decide +kernel
theorem dX5_addSplit_11 : decode cX5_addSplit 11 = .ok (.if_icmp .ge 22, 3) := by decide +kernel
theorem dX5_addSplit_14 : decode cX5_addSplit 14 = .ok (.iload_n 1, 1) := by decide +kernel
theorem dX5_addSplit_15 : decode cX5_addSplit 15 = .ok (.iload_n 2, 1) := by decide +kernel
theorem dX5_addSplit_16 : decode cX5_addSplit 16 = .ok (.ishr, 1) := by decide +kernel
theorem dX5_addSplit_17 : decode cX5_addSplit 17 = .ok (.iconst 1, 1) := by decide +kernel
theorem dX5_addSplit_18 : decode cX5_addSplit 18 = .ok (.iand, 1) := by decide +kernel
theorem dX5_addSplit_19 : decode cX5_addSplit 19 = .ok (.ifCond .eq 8, 3) := by decide +kernel
theorem dX5_addSplit_22 : decode cX5_addSplit 22 = .ok (.aload_n 0, 1) := by decide +kernel
theorem dX5_addSplit_23 : decode cX5_addSplit 23 = .ok (.iload_n 2, 1) := by decide +kernel
theorem dX5_addSplit_24 : decode cX5_addSplit 24 = .ok (.invokevirtual 24, 3) := by decide +kernel
theorem dX5_addSplit_27 : decode cX5_addSplit 27 = .ok (.iinc 2 1, 3) := by decide +kernel
theorem dX5_addSplit_30 : decode cX5_addSplit 30 = .ok (.goto (-22), 3) := by decide +kernel
theorem dX5_addSplit_33 : decode cX5_addSplit 33 = .ok (.return_, 1) := by decide +kernel
set_option maxRecDepth 20000 in
theorem ggX5_addFigure_X5_addByte : GoodIn wsX5_addFigure wsX5_addByte := goodIn_r _ [5, 6, 7, 8, 9] (by decide +kernel) (by decide +kernel)
set_option maxRecDepth 20000 in
theorem gX5_addFigure_X5_addByte : GoodIn wsX5_addFigure (wsV RX5 28 RX5 yX5_addByte wsX5_addByte) := goodIn_app (goodIn_of _ (by decide +kernel)) ggX5_addFigure_X5_addByte
theorem dX5_addFigure_0 : decode cX5_addFigure 0 = .ok (.aload_n 0, 1) := by decide +kernel
theorem dX5_addFigure_1 : decode cX5_addFigure 1 = .ok (.bipush 48, 2) := by decide +kernel
theorem dX5_addFigure_3 : decode cX5_addFigure 3 = .ok (.iload_n 1, 1) := by decide +kernel
theorem dX5_addFigure_4 : decode cX5_addFigure 4 = .ok (.iadd, 1) := by decide +kernel
theorem dX5_addFigure_5 : decode cX5_addFigure 5 = .ok (.invokevirtual 28, 3) := by decide +kernel
theorem dX5_addFigure_8 : decode cX5_addFigure 8 = .ok (.return_, 1) := by decide +kernel
theorem dX5_addByte_0 : decode cX5_addByte 0 = .ok (.aload_n 0, 1) := by decide +kernel
theorem dX5_addByte_1 : decode cX5_addByte 1 = .ok (.getfield 15, 3) := by decide +kernel
theorem dX5_addByte_4 : decode cX5_addByte 4 = .ok (.bipush 48, 2) := by decide +kernel
theorem dX5_addByte_6 : decode cX5_addByte 6 = .ok (.if_icmp .ge 23, 3) := by decide +kernel
theorem dX5_addByte_9 : decode cX5_addByte 9 = .ok (.aload_n 0, 1) := by decide +kernel
theorem dX5_addByte_10 : decode cX5_addByte 10 = .ok (.getfield 11, 3) := by decide +kernel
theorem dX5_addByte_13 : decode cX5_addByte 13 = .ok (.aload_n 0, 1) := by decide +kernel
theorem dX5_addByte_14 : decode cX5_addByte 14 = .ok (.getfield 15, 3) := by decide +kernel
theorem dX5_addByte_17 : decode cX5_addByte 17 = .ok (.iload_n 1, 1) := by decide +kernel
theorem dX5_addByte_18 : decode cX5_addByte 18 = .ok (.iastore, 1) := by decide +kernel
theorem dX5_addByte_19 : decode cX5_addByte 19 = .ok (.aload_n 0, 1) := by decide +kernel
theorem dX5_addByte_20 : decode cX5_addByte 20 = .ok (.dup, 1) := by decide +kernel
theorem dX5_addByte_21 : decode cX5_addByte 21 = .ok (.getfield 15, 3) := by decide +kernel
theorem dX5_addByte_24 : decode cX5_addByte 24 = .ok (.iconst 1, 1) := by decide +kernel
theorem dX5_addByte_25 : decode cX5_addByte 25 = .ok (.iadd, 1) := by decide +kernel
theorem dX5_addByte_26 : decode cX5_addByte 26 = .ok (.putfield 15, 3) := by decide +kernel
theorem dX5_addByte_29 : decode cX5_addByte 29 = .ok (.return_, 1) := by decide +kernel
theorem dX6_isLeafCount_0 : decode cX6_isLeafCount 0 = .ok (.iload_n 0, 1) := by decide +kernel
theorem dX6_isLeafCount_1 : decode cX6_isLeafCount 1 = .ok (.iconst 3, 1) := by decide +kernel
theorem dX6_isLeafCount_2 : decode cX6_isLeafCount 2 = .ok (.if_icmp .lt 13, 3) := by decide +kernel
theorem dX6_isLeafCount_5 : decode cX6_isLeafCount 5 = .ok (.iload_n 0, 1) := by decide +kernel
theorem dX6_isLeafCount_6 : decode cX6_isLeafCount 6 = .ok (.bipush 6, 2) := by decide +kernel
theorem dX6_isLeafCount_8 : decode cX6_isLeafCount 8 = .ok (.if_icmp .gt 7, 3) := by decide +kernel
theorem dX6_isLeafCount_11 : decode cX6_isLeafCount 11 = .ok (.iconst 1, 1) := by decide +kernel
theorem dX6_isLeafCount_12 : decode cX6_isLeafCount 12 = .ok (.goto 4, 3) := by decide +kernel
theorem dX6_isLeafCount_15 : decode cX6_isLeafCount 15 = .ok (.iconst 0, 1) := by decide +kernel
theorem dX6_isLeafCount_16 : decode cX6_isLeafCount 16 = .ok (.ireturn, 1) := by decide +kernel
set_option maxRecDepth 20000 in
theorem ggX6_isSplit_X6_isLeafCount : GoodIn wsX6_isSplit wsX6_isLeafCount := goodIn_r _ [4] (by decide +kernel) (by decide +kernel)
set_option maxRecDepth 20000 in
theorem gX6_isSplit_X6_isLeafCount : GoodIn wsX6_isSplit (va_wsS RX6 9 yX6_isLeafCount wsX6_isLeafCount) := goodIn_app (goodIn_of _ (by decide +kernel)) ggX6_isSplit_X6_isLeafCount
set_option maxRecDepth 20000 in
theorem ggX6_isSplit_J6_bitCount_0f7a4 : GoodIn wsX6_isSplit wsJ6_bitCount_0f7a4 := goodIn_r _ [8, 9, 10, 11] (by decide +kernel) (by decide +kernel)
set_option maxRecDepth 20000 in
theorem gX6_isSplit_J6_bitCount_0f7a4 : GoodIn wsX6_isSplit (va_wsS RX6 15 yJ6_bitCount_0f7a4 wsJ6_bitCount_0f7a4) := goodIn_app (goodIn_of _ (by decide +kernel)) ggX6_isSplit_J6_bitCount_0f7a4
theorem dX6_isSplit_0 : decode cX6_isSplit 0 = .ok (.iload_n 1, 1) := by decide +kernel
theorem dX6_isSplit_1 : decode cX6_isSplit 1 = .ok (.invokestatic 9, 3) := by decide +kernel
theorem dX6_isSplit_4 : decode cX6_isSplit 4 = .ok (.ifCond .eq 20, 3) := by decide +kernel
theorem dX6_isSplit_7 : decode cX6_isSplit 7 = .ok (.iload_n 0, 1) := by decide +kernel
theorem dX6_isSplit_8 : decode cX6_isSplit 8 = .ok (.ifCond .le 16, 3) := by decide +kernel
theorem dX6_isSplit_11 : decode cX6_isSplit 11 = .ok (.iload_n 0, 1) := by decide +kernel
theorem dX6_isSplit_12 : decode cX6_isSplit 12 = .ok (.iconst 1, 1) := by decide +kernel
theorem dX6_isSplit_13 : decode cX6_isSplit 13 = .ok (.iload_n 1, 1) := by decide +kernel
theorem dX6_isSplit_14 : decode cX6_isSplit 14 = .ok (.ishl, 1) := by decide +kernel
theorem dX6_isSplit_15 : decode cX6_isSplit 15 = .ok (.if_icmp .ge 9, 3) := by decide +kernel
theorem dX6_isSplit_18 : decode cX6_isSplit 18 = .ok (.iload_n 0, 1) := by decide +kernel
theorem dX6_isSplit_19 : decode cX6_isSplit 19 = .ok (.iconst 1, 1) := by decide +kernel
theorem dX6_isSplit_20 : decode cX6_isSplit 20 = .ok (.iand, 1) := by decide +kernel
theorem dX6_isSplit_21 : decode cX6_isSplit 21 = .ok (.ifCond .eq 5, 3) := by decide +kernel
theorem dX6_isSplit_24 : decode cX6_isSplit 24 = .ok (.iconst 0, 1) := by decide +kernel
theorem dX6_isSplit_25 : decode cX6_isSplit 25 = .ok (.ireturn, 1) := by decide +kernel
theorem dX6_isSplit_26 : decode cX6_isSplit 26 = .ok (.iload_n 0, 1) := by decide +kernel
theorem dX6_isSplit_27 : decode cX6_isSplit 27 = .ok (.invokestatic 15, 3) := by decide +kernel
theorem dX6_isSplit_30 : decode cX6_isSplit 30 = .ok (.istore_n 2, 1) := by decide +kernel
theorem dX6_isSplit_31 : decode cX6_isSplit 31 = .ok (.iload_n 2, 1) := by decide +kernel
theorem dX6_isSplit_32 : decode cX6_isSplit 32 = .ok (.iconst 2, 1) := by decide +kernel
theorem dX6_isSplit_33 : decode cX6_isSplit 33 = .ok (.if_icmp .lt 14, 3) := by decide +kernel
theorem dX6_isSplit_36 : decode cX6_isSplit 36 = .ok (.iload_n 2, 1) := by decide +kernel
theorem dX6_isSplit_37 : decode cX6_isSplit 37 = .ok (.iload_n 1, 1) := by decide +kernel
theorem dX6_isSplit_38 : decode cX6_isSplit 38 = .ok (.iconst 2, 1) := by decide +kernel
theorem dX6_isSplit_39 : decode cX6_isSplit 39 = .ok (.isub, 1) := by decide +kernel
theorem dX6_isSplit_40 : decode cX6_isSplit 40 = .ok (.if_icmp .gt 7, 3) := by decide +kernel
theorem dX6_isSplit_43 : decode cX6_isSplit 43 = .ok (.iconst 1, 1) := by decide +kernel
theorem dX6_isSplit_44 : decode cX6_isSplit 44 = .ok (.goto 4, 3) := by decide +kernel
theorem dX6_isSplit_47 : decode cX6_isSplit 47 = .ok (.iconst 0, 1) := by decide +kernel
theorem dX6_isSplit_48 : decode cX6_isSplit 48 = .ok (.ireturn, 1) := by decide +kernel
theorem dX6_has_0 : decode cX6_has 0 = .ok (.iload_n 2, 1) := by decide +kernel
theorem dX6_has_1 : decode cX6_has 1 = .ok (.ifCond .lt 23, 3) := by decide +kernel
theorem dX6_has_4 : decode cX6_has 4 = .ok (.iload_n 2, 1) := by decide +kernel
theorem dX6_has_5 : decode cX6_has 5 = .ok (.bipush 63, 2) := by decide +kernel
theorem dX6_has_7 : decode cX6_has 7 = .ok (.if_icmp .gt 17, 3) := by decide +kernel
theorem dX6_has_10 : decode cX6_has 10 = .ok (.lload_n 0, 1) := by decide +kernel
theorem dX6_has_11 : decode cX6_has 11 = .ok (.iload_n 2, 1) := by decide +kernel
theorem dX6_has_12 : decode cX6_has 12 = .ok (.lushr, 1) := by decide +kernel
theorem dX6_has_13 : decode cX6_has 13 = .ok (.lconst 1, 1) := by decide +kernel
theorem dX6_has_14 : decode cX6_has 14 = .ok (.land, 1) := by decide +kernel
theorem dX6_has_15 : decode cX6_has 15 = .ok (.lconst 0, 1) := by decide +kernel
theorem dX6_has_16 : decode cX6_has 16 = .ok (.lcmp, 1) := by decide +kernel
theorem dX6_has_17 : decode cX6_has 17 = .ok (.ifCond .eq 7, 3) := by decide +kernel
theorem dX6_has_20 : decode cX6_has 20 = .ok (.iconst 1, 1) := by decide +kernel
theorem dX6_has_21 : decode cX6_has 21 = .ok (.goto 4, 3) := by decide +kernel
theorem dX6_has_24 : decode cX6_has 24 = .ok (.iconst 0, 1) := by decide +kernel
theorem dX6_has_25 : decode cX6_has 25 = .ok (.ireturn, 1) := by decide +kernel
theorem dX6_with_0 : decode cX6_with 0 = .ok (.iload_n 2, 1) := by decide +kernel
theorem dX6_with_1 : decode cX6_with 1 = .ok (.ifCond .lt 17, 3) := by decide +kernel
theorem dX6_with_4 : decode cX6_with 4 = .ok (.iload_n 2, 1) := by decide +kernel
theorem dX6_with_5 : decode cX6_with 5 = .ok (.bipush 63, 2) := by decide +kernel
theorem dX6_with_7 : decode cX6_with 7 = .ok (.if_icmp .gt 11, 3) := by decide +kernel
theorem dX6_with_10 : decode cX6_with 10 = .ok (.lload_n 0, 1) := by decide +kernel
theorem dX6_with_11 : decode cX6_with 11 = .ok (.lconst 1, 1) := by decide +kernel
theorem dX6_with_12 : decode cX6_with 12 = .ok (.iload_n 2, 1) := by decide +kernel
theorem dX6_with_13 : decode cX6_with 13 = .ok (.lshl, 1) := by decide +kernel
theorem dX6_with_14 : decode cX6_with 14 = .ok (.lor, 1) := by decide +kernel
theorem dX6_with_15 : decode cX6_with 15 = .ok (.goto 4, 3) := by decide +kernel
theorem dX6_with_18 : decode cX6_with 18 = .ok (.lload_n 0, 1) := by decide +kernel
theorem dX6_with_19 : decode cX6_with 19 = .ok (.lreturn, 1) := by decide +kernel
theorem dX6_without_0 : decode cX6_without 0 = .ok (.iload_n 2, 1) := by decide +kernel
theorem dX6_without_1 : decode cX6_without 1 = .ok (.ifCond .lt 21, 3) := by decide +kernel
theorem dX6_without_4 : decode cX6_without 4 = .ok (.iload_n 2, 1) := by decide +kernel
theorem dX6_without_5 : decode cX6_without 5 = .ok (.bipush 63, 2) := by decide +kernel
theorem dX6_without_7 : decode cX6_without 7 = .ok (.if_icmp .gt 15, 3) := by decide +kernel
theorem dX6_without_10 : decode cX6_without 10 = .ok (.lload_n 0, 1) := by decide +kernel
theorem dX6_without_11 : decode cX6_without 11 = .ok (.lconst 1, 1) := by decide +kernel
theorem dX6_without_12 : decode cX6_without 12 = .ok (.iload_n 2, 1) := by decide +kernel
theorem dX6_without_13 : decode cX6_without 13 = .ok (.lshl, 1) := by decide +kernel
theorem dX6_without_14 : decode cX6_without 14 = .ok (.ldc2_w 21, 3) := by decide +kernel
theorem dX6_without_17 : decode cX6_without 17 = .ok (.lxor, 1) := by decide +kernel
theorem dX6_without_18 : decode cX6_without 18 = .ok (.land, 1) := by decide +kernel
theorem dX6_without_19 : decode cX6_without 19 = .ok (.goto 4, 3) := by decide +kernel
theorem dX6_without_22 : decode cX6_without 22 = .ok (.lload_n 0, 1) := by decide +kernel
theorem dX6_without_23 : decode cX6_without 23 = .ok (.lreturn, 1) := by decide +kernel
set_option maxRecDepth 20000 in
theorem ggX6_sizeOf_J13_bitCount_95d88 : GoodIn wsX6_sizeOf wsJ13_bitCount_95d88 := goodIn_r _ [4, 5, 6, 7] (by decide +kernel) (by decide +kernel)
set_option maxRecDepth 20000 in
theorem gX6_sizeOf_J13_bitCount_95d88 : GoodIn wsX6_sizeOf (va_wsS RX6 23 yJ13_bitCount_95d88 wsJ13_bitCount_95d88) := goodIn_app (goodIn_of _ (by decide +kernel)) ggX6_sizeOf_J13_bitCount_95d88
theorem dX6_sizeOf_0 : decode cX6_sizeOf 0 = .ok (.lload_n 0, 1) := by decide +kernel
theorem dX6_sizeOf_1 : decode cX6_sizeOf 1 = .ok (.invokestatic 23, 3) := by decide +kernel
theorem dX6_sizeOf_4 : decode cX6_sizeOf 4 = .ok (.ireturn, 1) := by decide +kernel
set_option maxRecDepth 20000 in
theorem ggX6_nth_J13_bitCount_95d88 : GoodIn wsX6_nth wsJ13_bitCount_95d88 := goodIn_r _ [4, 5, 6, 7] (by decide +kernel) (by decide +kernel)
set_option maxRecDepth 20000 in
theorem gX6_nth_J13_bitCount_95d88 : GoodIn wsX6_nth (va_wsS RX6 23 yJ13_bitCount_95d88 wsJ13_bitCount_95d88) := goodIn_app (goodIn_of _ (by decide +kernel)) ggX6_nth_J13_bitCount_95d88
theorem dX6_nth_0 : decode cX6_nth 0 = .ok (.iload_n 2, 1) := by decide +kernel
theorem dX6_nth_1 : decode cX6_nth 1 = .ok (.ifCond .lt 11, 3) := by decide +kernel
theorem dX6_nth_4 : decode cX6_nth 4 = .ok (.iload_n 2, 1) := by decide +kernel
theorem dX6_nth_5 : decode cX6_nth 5 = .ok (.lload_n 0, 1) := by decide +kernel
theorem dX6_nth_6 : decode cX6_nth 6 = .ok (.invokestatic 23, 3) := by decide +kernel
theorem dX6_nth_9 : decode cX6_nth 9 = .ok (.if_icmp .lt 5, 3) := by decide +kernel
theorem dX6_nth_12 : decode cX6_nth 12 = .ok (.iconst (-1), 1) := by decide +kernel
theorem dX6_nth_13 : decode cX6_nth 13 = .ok (.ireturn, 1) := by decide +kernel
theorem dX6_nth_14 : decode cX6_nth 14 = .ok (.lload_n 0, 1) := by decide +kernel
theorem dX6_nth_15 : decode cX6_nth 15 = .ok (.lstore_n 3, 1) := by decide +kernel
theorem dX6_nth_16 : decode cX6_nth 16 = .ok (.iconst 0, 1) := by decide +kernel
theorem dX6_nth_17 : decode cX6_nth 17 = .ok (.istore 5, 2) := by decide +kernel
theorem dX6_nth_19 : decode cX6_nth 19 = .ok (.iload 5, 2) := by decide +kernel
theorem dX6_nth_21 : decode cX6_nth 21 = .ok (.iload_n 2, 1) := by decide +kernel
theorem dX6_nth_22 : decode cX6_nth 22 = .ok (.if_icmp .ge 15, 3) := by decide +kernel
theorem dX6_nth_25 : decode cX6_nth 25 = .ok (.lload_n 3, 1) := by decide +kernel
theorem dX6_nth_26 : decode cX6_nth 26 = .ok (.lload_n 3, 1) := by decide +kernel
theorem dX6_nth_27 : decode cX6_nth 27 = .ok (.lconst 1, 1) := by decide +kernel
theorem dX6_nth_28 : decode cX6_nth 28 = .ok (.lsub, 1) := by decide +kernel
theorem dX6_nth_29 : decode cX6_nth 29 = .ok (.land, 1) := by decide +kernel
theorem dX6_nth_30 : decode cX6_nth 30 = .ok (.lstore_n 3, 1) := by decide +kernel
theorem dX6_nth_31 : decode cX6_nth 31 = .ok (.iinc 5 1, 3) := by decide +kernel
theorem dX6_nth_34 : decode cX6_nth 34 = .ok (.goto (-15), 3) := by decide +kernel
theorem dX6_nth_37 : decode cX6_nth 37 = .ok (.lload_n 3, 1) := by decide +kernel
theorem dX6_nth_38 : decode cX6_nth 38 = .ok (.lload_n 3, 1) := by decide +kernel
theorem dX6_nth_39 : decode cX6_nth 39 = .ok (.lneg, 1) := by decide +kernel
theorem dX6_nth_40 : decode cX6_nth 40 = .ok (.land, 1) := by decide +kernel
theorem dX6_nth_41 : decode cX6_nth 41 = .ok (.lconst 1, 1) := by decide +kernel
theorem dX6_nth_42 : decode cX6_nth 42 = .ok (.lsub, 1) := by decide +kernel
theorem dX6_nth_43 : decode cX6_nth 43 = .ok (.invokestatic 23, 3) := by decide +kernel
theorem dX6_nth_46 : decode cX6_nth 46 = .ok (.ireturn, 1) := by decide +kernel
theorem dX6_isWithin_0 : decode cX6_isWithin 0 = .ok (.iload_n 0, 1) := by decide +kernel
theorem dX6_isWithin_1 : decode cX6_isWithin 1 = .ok (.iload_n 1, 1) := by decide +kernel
theorem dX6_isWithin_2 : decode cX6_isWithin 2 = .ok (.iand, 1) := by decide +kernel
theorem dX6_isWithin_3 : decode cX6_isWithin 3 = .ok (.iload_n 0, 1) := by decide +kernel
theorem dX6_isWithin_4 : decode cX6_isWithin 4 = .ok (.if_icmp .ne 7, 3) := by decide +kernel
theorem dX6_isWithin_7 : decode cX6_isWithin 7 = .ok (.iconst 1, 1) := by decide +kernel
theorem dX6_isWithin_8 : decode cX6_isWithin 8 = .ok (.goto 4, 3) := by decide +kernel
theorem dX6_isWithin_11 : decode cX6_isWithin 11 = .ok (.iconst 0, 1) := by decide +kernel
theorem dX6_isWithin_12 : decode cX6_isWithin 12 = .ok (.ireturn, 1) := by decide +kernel
set_option maxRecDepth 20000 in
theorem ggX6_goTogether_X6_isWithin : GoodIn wsX6_goTogether wsX6_isWithin := goodIn_r _ [4] (by decide +kernel) (by decide +kernel)
set_option maxRecDepth 20000 in
theorem gX6_goTogether_X6_isWithin : GoodIn wsX6_goTogether (va_wsS RX6 28 yX6_isWithin wsX6_isWithin) := goodIn_app (goodIn_of _ (by decide +kernel)) ggX6_goTogether_X6_isWithin
theorem dX6_goTogether_0 : decode cX6_goTogether 0 = .ok (.iload_n 0, 1) := by decide +kernel
theorem dX6_goTogether_1 : decode cX6_goTogether 1 = .ok (.iload_n 1, 1) := by decide +kernel
theorem dX6_goTogether_2 : decode cX6_goTogether 2 = .ok (.iand, 1) := by decide +kernel
theorem dX6_goTogether_3 : decode cX6_goTogether 3 = .ok (.ifCond .eq 19, 3) := by decide +kernel
theorem dX6_goTogether_6 : decode cX6_goTogether 6 = .ok (.iload_n 0, 1) := by decide +kernel
theorem dX6_goTogether_7 : decode cX6_goTogether 7 = .ok (.iload_n 1, 1) := by decide +kernel
theorem dX6_goTogether_8 : decode cX6_goTogether 8 = .ok (.invokestatic 28, 3) := by decide +kernel
theorem dX6_goTogether_11 : decode cX6_goTogether 11 = .ok (.ifCond .ne 11, 3) := by decide +kernel
theorem dX6_goTogether_14 : decode cX6_goTogether 14 = .ok (.iload_n 1, 1) := by decide +kernel
theorem dX6_goTogether_15 : decode cX6_goTogether 15 = .ok (.iload_n 0, 1) := by decide +kernel
theorem dX6_goTogether_16 : decode cX6_goTogether 16 = .ok (.invokestatic 28, 3) := by decide +kernel
theorem dX6_goTogether_19 : decode cX6_goTogether 19 = .ok (.ifCond .eq 7, 3) := by decide +kernel
theorem dX6_goTogether_22 : decode cX6_goTogether 22 = .ok (.iconst 1, 1) := by decide +kernel
theorem dX6_goTogether_23 : decode cX6_goTogether 23 = .ok (.goto 4, 3) := by decide +kernel
theorem dX6_goTogether_26 : decode cX6_goTogether 26 = .ok (.iconst 0, 1) := by decide +kernel
theorem dX6_goTogether_27 : decode cX6_goTogether 27 = .ok (.ireturn, 1) := by decide +kernel
set_option maxRecDepth 20000 in
theorem ggX6_fits_X6_sizeOf : GoodIn wsX6_fits wsX6_sizeOf := goodIn_r _ [4, 5, 6, 7, 8, 9, 10, 11] (by decide +kernel) (by decide +kernel)
set_option maxRecDepth 20000 in
theorem gX6_fits_X6_sizeOf : GoodIn wsX6_fits (va_wsS RX6 32 yX6_sizeOf wsX6_sizeOf) := goodIn_app (goodIn_of _ (by decide +kernel)) ggX6_fits_X6_sizeOf
set_option maxRecDepth 20000 in
theorem ggX6_fits_X6_nth : GoodIn wsX6_fits wsX6_nth := goodIn_r _ [14, 5, 6, 7, 8, 9, 10, 11] (by decide +kernel) (by decide +kernel)
set_option maxRecDepth 20000 in
theorem gX6_fits_X6_nth : GoodIn wsX6_fits (va_wsS RX6 35 yX6_nth wsX6_nth) := goodIn_app (goodIn_of _ (by decide +kernel)) ggX6_fits_X6_nth
set_option maxRecDepth 20000 in
theorem ggX6_fits_X6_goTogether : GoodIn wsX6_fits wsX6_goTogether := goodIn_r _ [17, 18, 19, 3, 20] (by decide +kernel) (by decide +kernel)
set_option maxRecDepth 20000 in
theorem gX6_fits_X6_goTogether : GoodIn wsX6_fits (va_wsS RX6 39 yX6_goTogether wsX6_goTogether) := goodIn_app (goodIn_of _ (by decide +kernel)) ggX6_fits_X6_goTogether
theorem dX6_fits_0 : decode cX6_fits 0 = .ok (.lload_n 0, 1) := by decide +kernel
theorem dX6_fits_1 : decode cX6_fits 1 = .ok (.invokestatic 32, 3) := by decide +kernel
theorem dX6_fits_4 : decode cX6_fits 4 = .ok (.istore_n 3, 1) := by decide +kernel
theorem dX6_fits_5 : decode cX6_fits 5 = .ok (.iconst 0, 1) := by decide +kernel
theorem dX6_fits_6 : decode cX6_fits 6 = .ok (.istore 4, 2) := by decide +kernel
theorem dX6_fits_8 : decode cX6_fits 8 = .ok (.iload 4, 2) := by decide +kernel
theorem dX6_fits_10 : decode cX6_fits 10 = .ok (.iload_n 3, 1) := by decide +kernel
theorem dX6_fits_11 : decode cX6_fits 11 = .ok (.if_icmp .ge 34, 3) := by decide +kernel
theorem dX6_fits_14 : decode cX6_fits 14 = .ok (.lload_n 0, 1) := by decide +kernel
theorem dX6_fits_15 : decode cX6_fits 15 = .ok (.iload 4, 2) := by decide +kernel
theorem dX6_fits_17 : decode cX6_fits 17 = .ok (.invokestatic 35, 3) := by decide +kernel
theorem dX6_fits_20 : decode cX6_fits 20 = .ok (.istore 5, 2) := by decide +kernel
theorem dX6_fits_22 : decode cX6_fits 22 = .ok (.iload_n 2, 1) := by decide +kernel
theorem dX6_fits_23 : decode cX6_fits 23 = .ok (.iload 5, 2) := by decide +kernel
theorem dX6_fits_25 : decode cX6_fits 25 = .ok (.if_icmp .eq 12, 3) := by decide +kernel
theorem dX6_fits_28 : decode cX6_fits 28 = .ok (.iload_n 2, 1) := by decide +kernel
theorem dX6_fits_29 : decode cX6_fits 29 = .ok (.iload 5, 2) := by decide +kernel
theorem dX6_fits_31 : decode cX6_fits 31 = .ok (.invokestatic 39, 3) := by decide +kernel
theorem dX6_fits_34 : decode cX6_fits 34 = .ok (.ifCond .ne 5, 3) := by decide +kernel
theorem dX6_fits_37 : decode cX6_fits 37 = .ok (.iconst 0, 1) := by decide +kernel
theorem dX6_fits_38 : decode cX6_fits 38 = .ok (.ireturn, 1) := by decide +kernel
theorem dX6_fits_39 : decode cX6_fits 39 = .ok (.iinc 4 1, 3) := by decide +kernel
theorem dX6_fits_42 : decode cX6_fits 42 = .ok (.goto (-34), 3) := by decide +kernel
theorem dX6_fits_45 : decode cX6_fits 45 = .ok (.iconst 1, 1) := by decide +kernel
theorem dX6_fits_46 : decode cX6_fits 46 = .ok (.ireturn, 1) := by decide +kernel
theorem dX6_under_0 : decode cX6_under 0 = .ok (.iload_n 0, 1) := by decide +kernel
theorem dX6_under_1 : decode cX6_under 1 = .ok (.ifCond .ne 11, 3) := by decide +kernel
theorem dX6_under_4 : decode cX6_under 4 = .ok (.iconst 1, 1) := by decide +kernel
theorem dX6_under_5 : decode cX6_under 5 = .ok (.iload_n 1, 1) := by decide +kernel
theorem dX6_under_6 : decode cX6_under 6 = .ok (.ishl, 1) := by decide +kernel
theorem dX6_under_7 : decode cX6_under 7 = .ok (.iconst 2, 1) := by decide +kernel
theorem dX6_under_8 : decode cX6_under 8 = .ok (.isub, 1) := by decide +kernel
theorem dX6_under_9 : decode cX6_under 9 = .ok (.goto 4, 3) := by decide +kernel
theorem dX6_under_12 : decode cX6_under 12 = .ok (.iload_n 0, 1) := by decide +kernel
theorem dX6_under_13 : decode cX6_under 13 = .ok (.ireturn, 1) := by decide +kernel
set_option maxRecDepth 20000 in
theorem ggX6_lesserWithin_X6_sizeOf : GoodIn wsX6_lesserWithin wsX6_sizeOf := goodIn_r _ [4, 5, 6, 7, 8, 9, 10, 11] (by decide +kernel) (by decide +kernel)
set_option maxRecDepth 20000 in
theorem gX6_lesserWithin_X6_sizeOf : GoodIn wsX6_lesserWithin (va_wsS RX6 32 yX6_sizeOf wsX6_sizeOf) := goodIn_app (goodIn_of _ (by decide +kernel)) ggX6_lesserWithin_X6_sizeOf
set_option maxRecDepth 20000 in
theorem ggX6_lesserWithin_X6_nth : GoodIn wsX6_lesserWithin wsX6_nth := goodIn_r _ [14, 5, 6, 7, 8, 9, 10, 11] (by decide +kernel) (by decide +kernel)
set_option maxRecDepth 20000 in
theorem gX6_lesserWithin_X6_nth : GoodIn wsX6_lesserWithin (va_wsS RX6 35 yX6_nth wsX6_nth) := goodIn_app (goodIn_of _ (by decide +kernel)) ggX6_lesserWithin_X6_nth
set_option maxRecDepth 20000 in
theorem ggX6_lesserWithin_X6_isWithin : GoodIn wsX6_lesserWithin wsX6_isWithin := goodIn_r _ [17] (by decide +kernel) (by decide +kernel)
set_option maxRecDepth 20000 in
theorem gX6_lesserWithin_X6_isWithin : GoodIn wsX6_lesserWithin (va_wsS RX6 28 yX6_isWithin wsX6_isWithin) := goodIn_app (goodIn_of _ (by decide +kernel)) ggX6_lesserWithin_X6_isWithin
set_option maxRecDepth 20000 in
theorem ggX6_lesserWithin_X6_with : GoodIn wsX6_lesserWithin wsX6_with := goodIn_r _ [20] (by decide +kernel) (by decide +kernel)
set_option maxRecDepth 20000 in
theorem gX6_lesserWithin_X6_with : GoodIn wsX6_lesserWithin (va_wsS RX6 42 yX6_with wsX6_with) := goodIn_app (goodIn_of _ (by decide +kernel)) ggX6_lesserWithin_X6_with
theorem dX6_lesserWithin_0 : decode cX6_lesserWithin 0 = .ok (.lconst 0, 1) := by decide +kernel
theorem dX6_lesserWithin_1 : decode cX6_lesserWithin 1 = .ok (.lstore_n 3, 1) := by decide +kernel
theorem dX6_lesserWithin_2 : decode cX6_lesserWithin 2 = .ok (.lload_n 0, 1) := by decide +kernel
theorem dX6_lesserWithin_3 : decode cX6_lesserWithin 3 = .ok (.invokestatic 32, 3) := by decide +kernel
theorem dX6_lesserWithin_6 : decode cX6_lesserWithin 6 = .ok (.istore 5, 2) := by decide +kernel
theorem dX6_lesserWithin_8 : decode cX6_lesserWithin 8 = .ok (.iconst 0, 1) := by decide +kernel
theorem dX6_lesserWithin_9 : decode cX6_lesserWithin 9 = .ok (.istore 6, 2) := by decide +kernel
theorem dX6_lesserWithin_11 : decode cX6_lesserWithin 11 = .ok (.iload 6, 2) := by decide +kernel
theorem dX6_lesserWithin_13 : decode cX6_lesserWithin 13 = .ok (.iload 5, 2) := by decide +kernel
theorem dX6_lesserWithin_15 : decode cX6_lesserWithin 15 = .ok (.if_icmp .ge 39, 3) := by decide +kernel
theorem dX6_lesserWithin_18 : decode cX6_lesserWithin 18 = .ok (.lload_n 0, 1) := by decide +kernel
theorem dX6_lesserWithin_19 : decode cX6_lesserWithin 19 = .ok (.iload 6, 2) := by decide +kernel
theorem dX6_lesserWithin_21 : decode cX6_lesserWithin 21 = .ok (.invokestatic 35, 3) := by decide +kernel
theorem dX6_lesserWithin_24 : decode cX6_lesserWithin 24 = .ok (.istore 7, 2) := by decide +kernel
theorem dX6_lesserWithin_26 : decode cX6_lesserWithin 26 = .ok (.iload 7, 2) := by decide +kernel
theorem dX6_lesserWithin_28 : decode cX6_lesserWithin 28 = .ok (.iload_n 2, 1) := by decide +kernel
theorem dX6_lesserWithin_29 : decode cX6_lesserWithin 29 = .ok (.if_icmp .eq 19, 3) := by decide +kernel
theorem dX6_lesserWithin_32 : decode cX6_lesserWithin 32 = .ok (.iload 7, 2) := by decide +kernel
theorem dX6_lesserWithin_34 : decode cX6_lesserWithin 34 = .ok (.iload_n 2, 1) := by decide +kernel
theorem dX6_lesserWithin_35 : decode cX6_lesserWithin 35 = .ok (.invokestatic 28, 3) := by decide +kernel
theorem dX6_lesserWithin_38 : decode cX6_lesserWithin 38 = .ok (.ifCond .eq 10, 3) := by decide +kernel
theorem dX6_lesserWithin_41 : decode cX6_lesserWithin 41 = .ok (.lload_n 3, 1) := by decide +kernel
theorem dX6_lesserWithin_42 : decode cX6_lesserWithin 42 = .ok (.iload 7, 2) := by decide +kernel
theorem dX6_lesserWithin_44 : decode cX6_lesserWithin 44 = .ok (.invokestatic 42, 3) := by decide +kernel
theorem dX6_lesserWithin_47 : decode cX6_lesserWithin 47 = .ok (.lstore_n 3, 1) := by decide +kernel
theorem dX6_lesserWithin_48 : decode cX6_lesserWithin 48 = .ok (.iinc 6 1, 3) := by decide +kernel
theorem dX6_lesserWithin_51 : decode cX6_lesserWithin 51 = .ok (.goto (-40), 3) := by decide +kernel
theorem dX6_lesserWithin_54 : decode cX6_lesserWithin 54 = .ok (.lload_n 3, 1) := by decide +kernel
theorem dX6_lesserWithin_55 : decode cX6_lesserWithin 55 = .ok (.lreturn, 1) := by decide +kernel
set_option maxRecDepth 20000 in
theorem ggX6_leavesAt_X6_lesserWithin : GoodIn wsX6_leavesAt wsX6_lesserWithin := goodIn_r _ [4, 5, 6, 3, 7, 8, 9, 10, 11, 12, 13, 14, 15, 16, 17, 18, 19, 20, 21, 22, 23] (by decide +kernel) (by decide +kernel)
set_option maxRecDepth 20000 in
theorem gX6_leavesAt_X6_lesserWithin : GoodIn wsX6_leavesAt (va_wsS RX6 46 yX6_lesserWithin wsX6_lesserWithin) := goodIn_app (goodIn_of _ (by decide +kernel)) ggX6_leavesAt_X6_lesserWithin
set_option maxRecDepth 20000 in
theorem ggX6_leavesAt_X6_sizeOf : GoodIn wsX6_leavesAt wsX6_sizeOf := goodIn_r _ [7, 8, 9, 10, 11, 12, 13, 14] (by decide +kernel) (by decide +kernel)
set_option maxRecDepth 20000 in
theorem gX6_leavesAt_X6_sizeOf : GoodIn wsX6_leavesAt (va_wsS RX6 32 yX6_sizeOf wsX6_sizeOf) := goodIn_app (goodIn_of _ (by decide +kernel)) ggX6_leavesAt_X6_sizeOf
set_option maxRecDepth 20000 in
theorem ggX6_leavesAt_X6_nth : GoodIn wsX6_leavesAt wsX6_nth := goodIn_r _ [17, 8, 9, 10, 11, 12, 13, 14] (by decide +kernel) (by decide +kernel)
set_option maxRecDepth 20000 in
theorem gX6_leavesAt_X6_nth : GoodIn wsX6_leavesAt (va_wsS RX6 35 yX6_nth wsX6_nth) := goodIn_app (goodIn_of _ (by decide +kernel)) ggX6_leavesAt_X6_nth
theorem dX6_leavesAt_0 : decode cX6_leavesAt 0 = .ok (.lload_n 0, 1) := by decide +kernel
theorem dX6_leavesAt_1 : decode cX6_leavesAt 1 = .ok (.iload_n 2, 1) := by decide +kernel
theorem dX6_leavesAt_2 : decode cX6_leavesAt 2 = .ok (.invokestatic 46, 3) := by decide +kernel
theorem dX6_leavesAt_5 : decode cX6_leavesAt 5 = .ok (.lstore_n 3, 1) := by decide +kernel
theorem dX6_leavesAt_6 : decode cX6_leavesAt 6 = .ok (.iload_n 2, 1) := by decide +kernel
theorem dX6_leavesAt_7 : decode cX6_leavesAt 7 = .ok (.istore 5, 2) := by decide +kernel
theorem dX6_leavesAt_9 : decode cX6_leavesAt 9 = .ok (.lload_n 3, 1) := by decide +kernel
theorem dX6_leavesAt_10 : decode cX6_leavesAt 10 = .ok (.invokestatic 32, 3) := by decide +kernel
theorem dX6_leavesAt_13 : decode cX6_leavesAt 13 = .ok (.istore 6, 2) := by decide +kernel
theorem dX6_leavesAt_15 : decode cX6_leavesAt 15 = .ok (.iconst 0, 1) := by decide +kernel
theorem dX6_leavesAt_16 : decode cX6_leavesAt 16 = .ok (.istore 7, 2) := by decide +kernel
theorem dX6_leavesAt_18 : decode cX6_leavesAt 18 = .ok (.iload 7, 2) := by decide +kernel
theorem dX6_leavesAt_20 : decode cX6_leavesAt 20 = .ok (.iload 6, 2) := by decide +kernel
theorem dX6_leavesAt_22 : decode cX6_leavesAt 22 = .ok (.if_icmp .ge 22, 3) := by decide +kernel
theorem dX6_leavesAt_25 : decode cX6_leavesAt 25 = .ok (.iload 5, 2) := by decide +kernel
theorem dX6_leavesAt_27 : decode cX6_leavesAt 27 = .ok (.lload_n 3, 1) := by decide +kernel
theorem dX6_leavesAt_28 : decode cX6_leavesAt 28 = .ok (.iload 7, 2) := by decide +kernel
theorem dX6_leavesAt_30 : decode cX6_leavesAt 30 = .ok (.invokestatic 35, 3) := by decide +kernel
theorem dX6_leavesAt_33 : decode cX6_leavesAt 33 = .ok (.iconst (-1), 1) := by decide +kernel
theorem dX6_leavesAt_34 : decode cX6_leavesAt 34 = .ok (.ixor, 1) := by decide +kernel
theorem dX6_leavesAt_35 : decode cX6_leavesAt 35 = .ok (.iand, 1) := by decide +kernel
theorem dX6_leavesAt_36 : decode cX6_leavesAt 36 = .ok (.istore 5, 2) := by decide +kernel
theorem dX6_leavesAt_38 : decode cX6_leavesAt 38 = .ok (.iinc 7 1, 3) := by decide +kernel
theorem dX6_leavesAt_41 : decode cX6_leavesAt 41 = .ok (.goto (-23), 3) := by decide +kernel
theorem dX6_leavesAt_44 : decode cX6_leavesAt 44 = .ok (.iload 5, 2) := by decide +kernel
theorem dX6_leavesAt_46 : decode cX6_leavesAt 46 = .ok (.ireturn, 1) := by decide +kernel
set_option maxRecDepth 20000 in
theorem ggX6_edgesDown_X6_lesserWithin : GoodIn wsX6_edgesDown wsX6_lesserWithin := goodIn_r _ [4, 5, 6, 3, 7, 8, 9, 10, 11, 12, 13, 14, 15, 16, 17, 18, 19, 20, 21, 22, 23] (by decide +kernel) (by decide +kernel)
set_option maxRecDepth 20000 in
theorem gX6_edgesDown_X6_lesserWithin : GoodIn wsX6_edgesDown (va_wsS RX6 46 yX6_lesserWithin wsX6_lesserWithin) := goodIn_app (goodIn_of _ (by decide +kernel)) ggX6_edgesDown_X6_lesserWithin
set_option maxRecDepth 20000 in
theorem ggX6_edgesDown_X6_sizeOf : GoodIn wsX6_edgesDown wsX6_sizeOf := goodIn_r _ [7, 8, 9, 10, 11, 12, 13, 14] (by decide +kernel) (by decide +kernel)
set_option maxRecDepth 20000 in
theorem gX6_edgesDown_X6_sizeOf : GoodIn wsX6_edgesDown (va_wsS RX6 32 yX6_sizeOf wsX6_sizeOf) := goodIn_app (goodIn_of _ (by decide +kernel)) ggX6_edgesDown_X6_sizeOf
set_option maxRecDepth 20000 in
theorem ggX6_edgesDown_X6_nth : GoodIn wsX6_edgesDown wsX6_nth := goodIn_r _ [17, 8, 9, 10, 11, 12, 13, 14] (by decide +kernel) (by decide +kernel)
set_option maxRecDepth 20000 in
theorem gX6_edgesDown_X6_nth : GoodIn wsX6_edgesDown (va_wsS RX6 35 yX6_nth wsX6_nth) := goodIn_app (goodIn_of _ (by decide +kernel)) ggX6_edgesDown_X6_nth
set_option maxRecDepth 20000 in
theorem ggX6_edgesDown_X6_isOutermost : GoodIn wsX6_edgesDown wsX6_isOutermost := goodIn_r _ [26, 5, 6, 3, 7, 8, 9, 10, 11, 12, 13, 14, 15, 16, 17, 18, 19, 20] (by decide +kernel) (by decide +kernel)
set_option maxRecDepth 20000 in
theorem gX6_edgesDown_X6_isOutermost : GoodIn wsX6_edgesDown (va_wsS RX6 49 yX6_isOutermost wsX6_isOutermost) := goodIn_app (goodIn_of _ (by decide +kernel)) ggX6_edgesDown_X6_isOutermost
theorem dX6_edgesDown_0 : decode cX6_edgesDown 0 = .ok (.lload_n 0, 1) := by decide +kernel
theorem dX6_edgesDown_1 : decode cX6_edgesDown 1 = .ok (.iload_n 2, 1) := by decide +kernel
theorem dX6_edgesDown_2 : decode cX6_edgesDown 2 = .ok (.invokestatic 46, 3) := by decide +kernel
theorem dX6_edgesDown_5 : decode cX6_edgesDown 5 = .ok (.lstore_n 3, 1) := by decide +kernel
theorem dX6_edgesDown_6 : decode cX6_edgesDown 6 = .ok (.iconst 0, 1) := by decide +kernel
theorem dX6_edgesDown_7 : decode cX6_edgesDown 7 = .ok (.istore 5, 2) := by decide +kernel
theorem dX6_edgesDown_9 : decode cX6_edgesDown 9 = .ok (.lload_n 3, 1) := by decide +kernel
theorem dX6_edgesDown_10 : decode cX6_edgesDown 10 = .ok (.invokestatic 32, 3) := by decide +kernel
theorem dX6_edgesDown_13 : decode cX6_edgesDown 13 = .ok (.istore 6, 2) := by decide +kernel
theorem dX6_edgesDown_15 : decode cX6_edgesDown 15 = .ok (.iconst 0, 1) := by decide +kernel
theorem dX6_edgesDown_16 : decode cX6_edgesDown 16 = .ok (.istore 7, 2) := by decide +kernel
theorem dX6_edgesDown_18 : decode cX6_edgesDown 18 = .ok (.iload 7, 2) := by decide +kernel
theorem dX6_edgesDown_20 : decode cX6_edgesDown 20 = .ok (.iload 6, 2) := by decide +kernel
theorem dX6_edgesDown_22 : decode cX6_edgesDown 22 = .ok (.if_icmp .ge 25, 3) := by decide +kernel
theorem dX6_edgesDown_25 : decode cX6_edgesDown 25 = .ok (.lload_n 3, 1) := by decide +kernel
theorem dX6_edgesDown_26 : decode cX6_edgesDown 26 = .ok (.lload_n 3, 1) := by decide +kernel
theorem dX6_edgesDown_27 : decode cX6_edgesDown 27 = .ok (.iload 7, 2) := by decide +kernel
theorem dX6_edgesDown_29 : decode cX6_edgesDown 29 = .ok (.invokestatic 35, 3) := by decide +kernel
theorem dX6_edgesDown_32 : decode cX6_edgesDown 32 = .ok (.invokestatic 49, 3) := by decide +kernel
theorem dX6_edgesDown_35 : decode cX6_edgesDown 35 = .ok (.ifCond .eq 6, 3) := by decide +kernel
theorem dX6_edgesDown_38 : decode cX6_edgesDown 38 = .ok (.iinc 5 1, 3) := by decide +kernel
theorem dX6_edgesDown_41 : decode cX6_edgesDown 41 = .ok (.iinc 7 1, 3) := by decide +kernel
theorem dX6_edgesDown_44 : decode cX6_edgesDown 44 = .ok (.goto (-26), 3) := by decide +kernel
theorem dX6_edgesDown_47 : decode cX6_edgesDown 47 = .ok (.iload 5, 2) := by decide +kernel
theorem dX6_edgesDown_49 : decode cX6_edgesDown 49 = .ok (.ireturn, 1) := by decide +kernel
set_option maxRecDepth 20000 in
theorem ggX6_isOutermost_X6_sizeOf : GoodIn wsX6_isOutermost wsX6_sizeOf := goodIn_r _ [4, 5, 6, 7, 8, 9, 10, 11] (by decide +kernel) (by decide +kernel)
set_option maxRecDepth 20000 in
theorem gX6_isOutermost_X6_sizeOf : GoodIn wsX6_isOutermost (va_wsS RX6 32 yX6_sizeOf wsX6_sizeOf) := goodIn_app (goodIn_of _ (by decide +kernel)) ggX6_isOutermost_X6_sizeOf
set_option maxRecDepth 20000 in
theorem ggX6_isOutermost_X6_nth : GoodIn wsX6_isOutermost wsX6_nth := goodIn_r _ [14, 5, 6, 7, 8, 9, 10, 11] (by decide +kernel) (by decide +kernel)
set_option maxRecDepth 20000 in
theorem gX6_isOutermost_X6_nth : GoodIn wsX6_isOutermost (va_wsS RX6 35 yX6_nth wsX6_nth) := goodIn_app (goodIn_of _ (by decide +kernel)) ggX6_isOutermost_X6_nth
set_option maxRecDepth 20000 in
theorem ggX6_isOutermost_X6_isWithin : GoodIn wsX6_isOutermost wsX6_isWithin := goodIn_r _ [17] (by decide +kernel) (by decide +kernel)
set_option maxRecDepth 20000 in
theorem gX6_isOutermost_X6_isWithin : GoodIn wsX6_isOutermost (va_wsS RX6 28 yX6_isWithin wsX6_isWithin) := goodIn_app (goodIn_of _ (by decide +kernel)) ggX6_isOutermost_X6_isWithin
theorem dX6_isOutermost_0 : decode cX6_isOutermost 0 = .ok (.lload_n 0, 1) := by decide +kernel
theorem dX6_isOutermost_1 : decode cX6_isOutermost 1 = .ok (.invokestatic 32, 3) := by decide +kernel
theorem dX6_isOutermost_4 : decode cX6_isOutermost 4 = .ok (.istore_n 3, 1) := by decide +kernel
theorem dX6_isOutermost_5 : decode cX6_isOutermost 5 = .ok (.iconst 0, 1) := by decide +kernel
theorem dX6_isOutermost_6 : decode cX6_isOutermost 6 = .ok (.istore 4, 2) := by decide +kernel
theorem dX6_isOutermost_8 : decode cX6_isOutermost 8 = .ok (.iload 4, 2) := by decide +kernel
theorem dX6_isOutermost_10 : decode cX6_isOutermost 10 = .ok (.iload_n 3, 1) := by decide +kernel
theorem dX6_isOutermost_11 : decode cX6_isOutermost 11 = .ok (.if_icmp .ge 34, 3) := by decide +kernel
theorem dX6_isOutermost_14 : decode cX6_isOutermost 14 = .ok (.lload_n 0, 1) := by decide +kernel
theorem dX6_isOutermost_15 : decode cX6_isOutermost 15 = .ok (.iload 4, 2) := by decide +kernel
theorem dX6_isOutermost_17 : decode cX6_isOutermost 17 = .ok (.invokestatic 35, 3) := by decide +kernel
theorem dX6_isOutermost_20 : decode cX6_isOutermost 20 = .ok (.istore 5, 2) := by decide +kernel
theorem dX6_isOutermost_22 : decode cX6_isOutermost 22 = .ok (.iload 5, 2) := by decide +kernel
theorem dX6_isOutermost_24 : decode cX6_isOutermost 24 = .ok (.iload_n 2, 1) := by decide +kernel
theorem dX6_isOutermost_25 : decode cX6_isOutermost 25 = .ok (.if_icmp .eq 14, 3) := by decide +kernel
theorem dX6_isOutermost_28 : decode cX6_isOutermost 28 = .ok (.iload_n 2, 1) := by decide +kernel
theorem dX6_isOutermost_29 : decode cX6_isOutermost 29 = .ok (.iload 5, 2) := by decide +kernel
theorem dX6_isOutermost_31 : decode cX6_isOutermost 31 = .ok (.invokestatic 28, 3) := by decide +kernel
theorem dX6_isOutermost_34 : decode cX6_isOutermost 34 = .ok (.ifCond .eq 5, 3) := by decide +kernel
theorem dX6_isOutermost_37 : decode cX6_isOutermost 37 = .ok (.iconst 0, 1) := by decide +kernel
theorem dX6_isOutermost_38 : decode cX6_isOutermost 38 = .ok (.ireturn, 1) := by decide +kernel
theorem dX6_isOutermost_39 : decode cX6_isOutermost 39 = .ok (.iinc 4 1, 3) := by decide +kernel
theorem dX6_isOutermost_42 : decode cX6_isOutermost 42 = .ok (.goto (-34), 3) := by decide +kernel
theorem dX6_isOutermost_45 : decode cX6_isOutermost 45 = .ok (.iconst 1, 1) := by decide +kernel
theorem dX6_isOutermost_46 : decode cX6_isOutermost 46 = .ok (.ireturn, 1) := by decide +kernel
set_option maxRecDepth 20000 in
theorem ggX6_countTrees_X6_countMore : GoodIn wsX6_countTrees wsX6_countMore := goodIn_r _ [4, 5, 6, 3, 7, 8, 9, 10, 11, 12, 13, 14, 15, 16, 17, 18, 19, 20, 21, 22, 23, 24, 25, 26, 27, 28, 29, 30, 31, 32, 33, 34, 35, 36, 37, 38, 39, 40, 41, 42, 1, 2] (by decide +kernel) (by decide +kernel)
set_option maxRecDepth 20000 in
theorem gX6_countTrees_X6_countMore : GoodIn wsX6_countTrees (va_wsS RX6 53 yX6_countMore wsX6_countMore) := goodIn_app (goodIn_of _ (by decide +kernel)) ggX6_countTrees_X6_countMore
theorem dX6_countTrees_0 : decode cX6_countTrees 0 = .ok (.iload_n 0, 1) := by decide +kernel
theorem dX6_countTrees_1 : decode cX6_countTrees 1 = .ok (.iload_n 1, 1) := by decide +kernel
theorem dX6_countTrees_2 : decode cX6_countTrees 2 = .ok (.lconst 0, 1) := by decide +kernel
theorem dX6_countTrees_3 : decode cX6_countTrees 3 = .ok (.iconst 2, 1) := by decide +kernel
theorem dX6_countTrees_4 : decode cX6_countTrees 4 = .ok (.invokestatic 53, 3) := by decide +kernel
theorem dX6_countTrees_7 : decode cX6_countTrees 7 = .ok (.ireturn, 1) := by decide +kernel
set_option maxRecDepth 20000 in
theorem ggX6_countMore_X6_sizeOf : GoodIn wsX6_countMore wsX6_sizeOf := goodIn_r _ [4, 5, 6, 7, 8, 9, 10, 11] (by decide +kernel) (by decide +kernel)
set_option maxRecDepth 20000 in
theorem gX6_countMore_X6_sizeOf : GoodIn wsX6_countMore (va_wsS RX6 32 yX6_sizeOf wsX6_sizeOf) := goodIn_app (goodIn_of _ (by decide +kernel)) ggX6_countMore_X6_sizeOf
set_option maxRecDepth 20000 in
theorem ggX6_countMore_X6_isSplit : GoodIn wsX6_countMore wsX6_isSplit := goodIn_r _ [14, 15, 16, 3, 17, 18, 19, 20, 21, 22, 23, 24] (by decide +kernel) (by decide +kernel)
set_option maxRecDepth 20000 in
theorem gX6_countMore_X6_isSplit : GoodIn wsX6_countMore (va_wsS RX6 57 yX6_isSplit wsX6_isSplit) := goodIn_app (goodIn_of _ (by decide +kernel)) ggX6_countMore_X6_isSplit
set_option maxRecDepth 20000 in
theorem ggX6_countMore_X6_fits : GoodIn wsX6_countMore wsX6_fits := goodIn_r _ [27, 1, 2, 3, 4, 5, 6, 7, 8, 9, 10, 11, 28, 29, 30, 31, 32, 33, 34, 35, 36] (by decide +kernel) (by decide +kernel)
set_option maxRecDepth 20000 in
theorem gX6_countMore_X6_fits : GoodIn wsX6_countMore (va_wsS RX6 60 yX6_fits wsX6_fits) := goodIn_app (goodIn_of _ (by decide +kernel)) ggX6_countMore_X6_fits
set_option maxRecDepth 20000 in
theorem ggX6_countMore_X6_with : GoodIn wsX6_countMore wsX6_with := goodIn_r _ [39] (by decide +kernel) (by decide +kernel)
set_option maxRecDepth 20000 in
theorem gX6_countMore_X6_with : GoodIn wsX6_countMore (va_wsS RX6 42 yX6_with wsX6_with) := goodIn_app (goodIn_of _ (by decide +kernel)) ggX6_countMore_X6_with
set_option maxRecDepth 20000 in
theorem ggX6_countMore_X6_countMore : GoodIn wsX6_countMore wsX6_countMore := goodIn_r _ [0, 1, 2, 3, 4, 5, 6, 7, 8, 9, 10, 11, 12, 13, 14, 15, 16, 17, 18, 19, 20, 21, 22, 23, 24, 25, 26, 27, 28, 29, 30, 31, 32, 33, 34, 35, 36, 37, 38, 39, 40, 41] (by decide +kernel) (by decide +kernel)
set_option maxRecDepth 20000 in
theorem gX6_countMore_X6_countMore : GoodIn wsX6_countMore (va_wsS RX6 53 yX6_countMore wsX6_countMore) := goodIn_app (goodIn_of _ (by decide +kernel)) ggX6_countMore_X6_countMore
theorem dX6_countMore_0 : decode cX6_countMore 0 = .ok (.iload_n 1, 1) := by decide +kernel
theorem dX6_countMore_1 : decode cX6_countMore 1 = .ok (.ifCond .gt 5, 3) := by decide +kernel
theorem dX6_countMore_4 : decode cX6_countMore 4 = .ok (.iconst 1, 1) := by decide +kernel
theorem dX6_countMore_5 : decode cX6_countMore 5 = .ok (.ireturn, 1) := by decide +kernel
theorem dX6_countMore_6 : decode cX6_countMore 6 = .ok (.lload_n 2, 1) := by decide +kernel
theorem dX6_countMore_7 : decode cX6_countMore 7 = .ok (.invokestatic 32, 3) := by decide +kernel
theorem dX6_countMore_10 : decode cX6_countMore 10 = .ok (.iload_n 1, 1) := by decide +kernel
theorem dX6_countMore_11 : decode cX6_countMore 11 = .ok (.iadd, 1) := by decide +kernel
theorem dX6_countMore_12 : decode cX6_countMore 12 = .ok (.iload_n 0, 1) := by decide +kernel
theorem dX6_countMore_13 : decode cX6_countMore 13 = .ok (.iconst 3, 1) := by decide +kernel
theorem dX6_countMore_14 : decode cX6_countMore 14 = .ok (.isub, 1) := by decide +kernel
theorem dX6_countMore_15 : decode cX6_countMore 15 = .ok (.if_icmp .le 5, 3) := by decide +kernel
theorem dX6_countMore_18 : decode cX6_countMore 18 = .ok (.iconst 0, 1) := by decide +kernel
theorem dX6_countMore_19 : decode cX6_countMore 19 = .ok (.ireturn, 1) := by decide +kernel
theorem dX6_countMore_20 : decode cX6_countMore 20 = .ok (.iconst 0, 1) := by decide +kernel
theorem dX6_countMore_21 : decode cX6_countMore 21 = .ok (.istore 5, 2) := by decide +kernel
theorem dX6_countMore_23 : decode cX6_countMore 23 = .ok (.iload 4, 2) := by decide +kernel
theorem dX6_countMore_25 : decode cX6_countMore 25 = .ok (.istore 6, 2) := by decide +kernel
theorem dX6_countMore_27 : decode cX6_countMore 27 = .ok (.iload 6, 2) := by decide +kernel
theorem dX6_countMore_29 : decode cX6_countMore 29 = .ok (.iconst 1, 1) := by decide +kernel
theorem dX6_countMore_30 : decode cX6_countMore 30 = .ok (.iload_n 0, 1) := by decide +kernel
theorem dX6_countMore_31 : decode cX6_countMore 31 = .ok (.ishl, 1) := by decide +kernel
theorem dX6_countMore_32 : decode cX6_countMore 32 = .ok (.if_icmp .ge 49, 3) := by decide +kernel
theorem dX6_countMore_35 : decode cX6_countMore 35 = .ok (.iload 6, 2) := by decide +kernel
theorem dX6_countMore_37 : decode cX6_countMore 37 = .ok (.iload_n 0, 1) := by decide +kernel
theorem dX6_countMore_38 : decode cX6_countMore 38 = .ok (.invokestatic 57, 3) := by decide +kernel
theorem dX6_countMore_41 : decode cX6_countMore 41 = .ok (.ifCond .eq 34, 3) := by decide +kernel
theorem dX6_countMore_44 : decode cX6_countMore 44 = .ok (.lload_n 2, 1) := by decide +kernel
theorem dX6_countMore_45 : decode cX6_countMore 45 = .ok (.iload 6, 2) := by decide +kernel
theorem dX6_countMore_47 : decode cX6_countMore 47 = .ok (.invokestatic 60, 3) := by decide +kernel
theorem dX6_countMore_50 : decode cX6_countMore 50 = .ok (.ifCond .eq 25, 3) := by decide +kernel
theorem dX6_countMore_53 : decode cX6_countMore 53 = .ok (.iload 5, 2) := by decide +kernel
theorem dX6_countMore_55 : decode cX6_countMore 55 = .ok (.iload_n 0, 1) := by decide +kernel
theorem dX6_countMore_56 : decode cX6_countMore 56 = .ok (.iload_n 1, 1) := by decide +kernel
theorem dX6_countMore_57 : decode cX6_countMore 57 = .ok (.iconst 1, 1) := by decide +kernel
theorem dX6_countMore_58 : decode cX6_countMore 58 = .ok (.isub, 1) := by decide +kernel
theorem dX6_countMore_59 : decode cX6_countMore 59 = .ok (.lload_n 2, 1) := by decide +kernel
theorem dX6_countMore_60 : decode cX6_countMore 60 = .ok (.iload 6, 2) := by decide +kernel
theorem dX6_countMore_62 : decode cX6_countMore 62 = .ok (.invokestatic 42, 3) := by decide +kernel
theorem dX6_countMore_65 : decode cX6_countMore 65 = .ok (.iload 6, 2) := by decide +kernel
theorem dX6_countMore_67 : decode cX6_countMore 67 = .ok (.iconst 2, 1) := by decide +kernel
theorem dX6_countMore_68 : decode cX6_countMore 68 = .ok (.iadd, 1) := by decide +kernel
theorem dX6_countMore_69 : decode cX6_countMore 69 = .ok (.invokestatic 53, 3) := by decide +kernel
theorem dX6_countMore_72 : decode cX6_countMore 72 = .ok (.iadd, 1) := by decide +kernel
theorem dX6_countMore_73 : decode cX6_countMore 73 = .ok (.istore 5, 2) := by decide +kernel
theorem dX6_countMore_75 : decode cX6_countMore 75 = .ok (.iinc 6 2, 3) := by decide +kernel
theorem dX6_countMore_78 : decode cX6_countMore 78 = .ok (.goto (-51), 3) := by decide +kernel
theorem dX6_countMore_81 : decode cX6_countMore 81 = .ok (.iload 5, 2) := by decide +kernel
theorem dX6_countMore_83 : decode cX6_countMore 83 = .ok (.ireturn, 1) := by decide +kernel
set_option maxRecDepth 20000 in
theorem ggX6_treeAt_X6_isSplit : GoodIn wsX6_treeAt wsX6_isSplit := goodIn_r _ [4, 5, 6, 3, 7, 8, 9, 10, 11, 12, 13, 14] (by decide +kernel) (by decide +kernel)
set_option maxRecDepth 20000 in
theorem gX6_treeAt_X6_isSplit : GoodIn wsX6_treeAt (va_wsS RX6 57 yX6_isSplit wsX6_isSplit) := goodIn_app (goodIn_of _ (by decide +kernel)) ggX6_treeAt_X6_isSplit
set_option maxRecDepth 20000 in
theorem ggX6_treeAt_X6_fits : GoodIn wsX6_treeAt wsX6_fits := goodIn_r _ [17, 18, 19, 3, 20, 21, 22, 23, 24, 25, 26, 27, 28, 29, 30, 31, 32, 33, 34, 35, 36] (by decide +kernel) (by decide +kernel)
set_option maxRecDepth 20000 in
theorem gX6_treeAt_X6_fits : GoodIn wsX6_treeAt (va_wsS RX6 60 yX6_fits wsX6_fits) := goodIn_app (goodIn_of _ (by decide +kernel)) ggX6_treeAt_X6_fits
set_option maxRecDepth 20000 in
theorem ggX6_treeAt_X6_with : GoodIn wsX6_treeAt wsX6_with := goodIn_r _ [39] (by decide +kernel) (by decide +kernel)
set_option maxRecDepth 20000 in
theorem gX6_treeAt_X6_with : GoodIn wsX6_treeAt (va_wsS RX6 42 yX6_with wsX6_with) := goodIn_app (goodIn_of _ (by decide +kernel)) ggX6_treeAt_X6_with
set_option maxRecDepth 20000 in
theorem ggX6_treeAt_X6_countMore : GoodIn wsX6_treeAt wsX6_countMore := goodIn_r _ [42, 18, 19, 3, 20, 21, 22, 23, 24, 25, 26, 27, 1, 2, 4, 5, 6, 7, 8, 9, 10, 11, 12, 13, 14, 15, 16, 17, 28, 29, 30, 31, 32, 33, 34, 35, 36, 37, 38, 39, 40, 41] (by decide +kernel) (by decide +kernel)
set_option maxRecDepth 20000 in
theorem gX6_treeAt_X6_countMore : GoodIn wsX6_treeAt (va_wsS RX6 53 yX6_countMore wsX6_countMore) := goodIn_app (goodIn_of _ (by decide +kernel)) ggX6_treeAt_X6_countMore
theorem dX6_treeAt_0 : decode cX6_treeAt 0 = .ok (.lconst 0, 1) := by decide +kernel
theorem dX6_treeAt_1 : decode cX6_treeAt 1 = .ok (.lstore_n 3, 1) := by decide +kernel
theorem dX6_treeAt_2 : decode cX6_treeAt 2 = .ok (.iconst 2, 1) := by decide +kernel
theorem dX6_treeAt_3 : decode cX6_treeAt 3 = .ok (.istore 5, 2) := by decide +kernel
theorem dX6_treeAt_5 : decode cX6_treeAt 5 = .ok (.iload_n 2, 1) := by decide +kernel
theorem dX6_treeAt_6 : decode cX6_treeAt 6 = .ok (.istore 6, 2) := by decide +kernel
theorem dX6_treeAt_8 : decode cX6_treeAt 8 = .ok (.iload_n 1, 1) := by decide +kernel
theorem dX6_treeAt_9 : decode cX6_treeAt 9 = .ok (.iconst 1, 1) := by decide +kernel
theorem dX6_treeAt_10 : decode cX6_treeAt 10 = .ok (.isub, 1) := by decide +kernel
theorem dX6_treeAt_11 : decode cX6_treeAt 11 = .ok (.istore 7, 2) := by decide +kernel
theorem dX6_treeAt_13 : decode cX6_treeAt 13 = .ok (.iload 7, 2) := by decide +kernel
theorem dX6_treeAt_15 : decode cX6_treeAt 15 = .ok (.ifCond .lt 114, 3) := by decide +kernel
theorem dX6_treeAt_18 : decode cX6_treeAt 18 = .ok (.iconst 0, 1) := by decide +kernel
theorem dX6_treeAt_19 : decode cX6_treeAt 19 = .ok (.istore 8, 2) := by decide +kernel
theorem dX6_treeAt_21 : decode cX6_treeAt 21 = .ok (.iload 5, 2) := by decide +kernel
theorem dX6_treeAt_23 : decode cX6_treeAt 23 = .ok (.istore 9, 2) := by decide +kernel
theorem dX6_treeAt_25 : decode cX6_treeAt 25 = .ok (.iload 9, 2) := by decide +kernel
theorem dX6_treeAt_27 : decode cX6_treeAt 27 = .ok (.iconst 1, 1) := by decide +kernel
theorem dX6_treeAt_28 : decode cX6_treeAt 28 = .ok (.iload_n 0, 1) := by decide +kernel
theorem dX6_treeAt_29 : decode cX6_treeAt 29 = .ok (.ishl, 1) := by decide +kernel
theorem dX6_treeAt_30 : decode cX6_treeAt 30 = .ok (.if_icmp .ge 86, 3) := by decide +kernel
theorem dX6_treeAt_33 : decode cX6_treeAt 33 = .ok (.iload 8, 2) := by decide +kernel
theorem dX6_treeAt_35 : decode cX6_treeAt 35 = .ok (.ifCond .ne 81, 3) := by decide +kernel
theorem dX6_treeAt_38 : decode cX6_treeAt 38 = .ok (.iload 9, 2) := by decide +kernel
theorem dX6_treeAt_40 : decode cX6_treeAt 40 = .ok (.iload_n 0, 1) := by decide +kernel
theorem dX6_treeAt_41 : decode cX6_treeAt 41 = .ok (.invokestatic 57, 3) := by decide +kernel
theorem dX6_treeAt_44 : decode cX6_treeAt 44 = .ok (.ifCond .eq 66, 3) := by decide +kernel
theorem dX6_treeAt_47 : decode cX6_treeAt 47 = .ok (.lload_n 3, 1) := by decide +kernel
theorem dX6_treeAt_48 : decode cX6_treeAt 48 = .ok (.iload 9, 2) := by decide +kernel
theorem dX6_treeAt_50 : decode cX6_treeAt 50 = .ok (.invokestatic 60, 3) := by decide +kernel
theorem dX6_treeAt_53 : decode cX6_treeAt 53 = .ok (.ifCond .ne 6, 3) := by decide +kernel
theorem dX6_treeAt_56 : decode cX6_treeAt 56 = .ok (.goto 54, 3) := by decide +kernel
theorem dX6_treeAt_59 : decode cX6_treeAt 59 = .ok (.iload_n 0, 1) := by decide +kernel
theorem dX6_treeAt_60 : decode cX6_treeAt 60 = .ok (.iload 7, 2) := by decide +kernel
theorem dX6_treeAt_62 : decode cX6_treeAt 62 = .ok (.lload_n 3, 1) := by decide +kernel
theorem dX6_treeAt_63 : decode cX6_treeAt 63 = .ok (.iload 9, 2) := by decide +kernel
theorem dX6_treeAt_65 : decode cX6_treeAt 65 = .ok (.invokestatic 42, 3) := by decide +kernel
theorem dX6_treeAt_68 : decode cX6_treeAt 68 = .ok (.iload 9, 2) := by decide +kernel
theorem dX6_treeAt_70 : decode cX6_treeAt 70 = .ok (.iconst 2, 1) := by decide +kernel
theorem dX6_treeAt_71 : decode cX6_treeAt 71 = .ok (.iadd, 1) := by decide +kernel
theorem dX6_treeAt_72 : decode cX6_treeAt 72 = .ok (.invokestatic 53, 3) := by decide +kernel
theorem dX6_treeAt_75 : decode cX6_treeAt 75 = .ok (.istore 10, 2) := by decide +kernel
theorem dX6_treeAt_77 : decode cX6_treeAt 77 = .ok (.iload 6, 2) := by decide +kernel
theorem dX6_treeAt_79 : decode cX6_treeAt 79 = .ok (.iload 10, 2) := by decide +kernel
theorem dX6_treeAt_81 : decode cX6_treeAt 81 = .ok (.if_icmp .ge 22, 3) := by decide +kernel
theorem dX6_treeAt_84 : decode cX6_treeAt 84 = .ok (.lload_n 3, 1) := by decide +kernel
theorem dX6_treeAt_85 : decode cX6_treeAt 85 = .ok (.iload 9, 2) := by decide +kernel
theorem dX6_treeAt_87 : decode cX6_treeAt 87 = .ok (.invokestatic 42, 3) := by decide +kernel
theorem dX6_treeAt_90 : decode cX6_treeAt 90 = .ok (.lstore_n 3, 1) := by decide +kernel
theorem dX6_treeAt_91 : decode cX6_treeAt 91 = .ok (.iload 9, 2) := by decide +kernel
theorem dX6_treeAt_93 : decode cX6_treeAt 93 = .ok (.iconst 2, 1) := by decide +kernel
theorem dX6_treeAt_94 : decode cX6_treeAt 94 = .ok (.iadd, 1) := by decide +kernel
theorem dX6_treeAt_95 : decode cX6_treeAt 95 = .ok (.istore 5, 2) := by decide +kernel
theorem dX6_treeAt_97 : decode cX6_treeAt 97 = .ok (.iconst 1, 1) := by decide +kernel
theorem dX6_treeAt_98 : decode cX6_treeAt 98 = .ok (.istore 8, 2) := by decide +kernel
theorem dX6_treeAt_100 : decode cX6_treeAt 100 = .ok (.goto 10, 3) := by decide +kernel
theorem dX6_treeAt_103 : decode cX6_treeAt 103 = .ok (.iload 6, 2) := by decide +kernel
theorem dX6_treeAt_105 : decode cX6_treeAt 105 = .ok (.iload 10, 2) := by decide +kernel
theorem dX6_treeAt_107 : decode cX6_treeAt 107 = .ok (.isub, 1) := by decide +kernel
theorem dX6_treeAt_108 : decode cX6_treeAt 108 = .ok (.istore 6, 2) := by decide +kernel
theorem dX6_treeAt_110 : decode cX6_treeAt 110 = .ok (.iinc 9 2, 3) := by decide +kernel
theorem dX6_treeAt_113 : decode cX6_treeAt 113 = .ok (.goto (-88), 3) := by decide +kernel
theorem dX6_treeAt_116 : decode cX6_treeAt 116 = .ok (.iload 8, 2) := by decide +kernel
theorem dX6_treeAt_118 : decode cX6_treeAt 118 = .ok (.ifCond .ne 5, 3) := by decide +kernel
theorem dX6_treeAt_121 : decode cX6_treeAt 121 = .ok (.lconst 0, 1) := by decide +kernel
theorem dX6_treeAt_122 : decode cX6_treeAt 122 = .ok (.lreturn, 1) := by decide +kernel
theorem dX6_treeAt_123 : decode cX6_treeAt 123 = .ok (.iinc 7 (-1), 3) := by decide +kernel
theorem dX6_treeAt_126 : decode cX6_treeAt 126 = .ok (.goto (-113), 3) := by decide +kernel
theorem dX6_treeAt_129 : decode cX6_treeAt 129 = .ok (.lload_n 3, 1) := by decide +kernel
theorem dX6_treeAt_130 : decode cX6_treeAt 130 = .ok (.lreturn, 1) := by decide +kernel
set_option maxRecDepth 20000 in
theorem ggX6_forgetLeaf_X6_sizeOf : GoodIn wsX6_forgetLeaf wsX6_sizeOf := goodIn_r _ [4, 5, 6, 7, 8, 9, 10, 11] (by decide +kernel) (by decide +kernel)
set_option maxRecDepth 20000 in
theorem gX6_forgetLeaf_X6_sizeOf : GoodIn wsX6_forgetLeaf (va_wsS RX6 32 yX6_sizeOf wsX6_sizeOf) := goodIn_app (goodIn_of _ (by decide +kernel)) ggX6_forgetLeaf_X6_sizeOf
set_option maxRecDepth 20000 in
theorem ggX6_forgetLeaf_X6_nth : GoodIn wsX6_forgetLeaf wsX6_nth := goodIn_r _ [14, 5, 6, 7, 8, 9, 10, 11] (by decide +kernel) (by decide +kernel)
set_option maxRecDepth 20000 in
theorem gX6_forgetLeaf_X6_nth : GoodIn wsX6_forgetLeaf (va_wsS RX6 35 yX6_nth wsX6_nth) := goodIn_app (goodIn_of _ (by decide +kernel)) ggX6_forgetLeaf_X6_nth
set_option maxRecDepth 20000 in
theorem ggX6_forgetLeaf_X6_leftWithout : GoodIn wsX6_forgetLeaf wsX6_leftWithout := goodIn_r _ [17] (by decide +kernel) (by decide +kernel)
set_option maxRecDepth 20000 in
theorem gX6_forgetLeaf_X6_leftWithout : GoodIn wsX6_forgetLeaf (va_wsS RX6 63 yX6_leftWithout wsX6_leftWithout) := goodIn_app (goodIn_of _ (by decide +kernel)) ggX6_forgetLeaf_X6_leftWithout
set_option maxRecDepth 20000 in
theorem ggX6_forgetLeaf_X6_isSplit : GoodIn wsX6_forgetLeaf wsX6_isSplit := goodIn_r _ [20, 21, 22, 3, 23, 24, 25, 26, 27, 28, 29, 30] (by decide +kernel) (by decide +kernel)
set_option maxRecDepth 20000 in
theorem gX6_forgetLeaf_X6_isSplit : GoodIn wsX6_forgetLeaf (va_wsS RX6 57 yX6_isSplit wsX6_isSplit) := goodIn_app (goodIn_of _ (by decide +kernel)) ggX6_forgetLeaf_X6_isSplit
set_option maxRecDepth 20000 in
theorem ggX6_forgetLeaf_X6_with : GoodIn wsX6_forgetLeaf wsX6_with := goodIn_r _ [33] (by decide +kernel) (by decide +kernel)
set_option maxRecDepth 20000 in
theorem gX6_forgetLeaf_X6_with : GoodIn wsX6_forgetLeaf (va_wsS RX6 42 yX6_with wsX6_with) := goodIn_app (goodIn_of _ (by decide +kernel)) ggX6_forgetLeaf_X6_with
theorem dX6_forgetLeaf_0 : decode cX6_forgetLeaf 0 = .ok (.lconst 0, 1) := by decide +kernel
theorem dX6_forgetLeaf_1 : decode cX6_forgetLeaf 1 = .ok (.lstore 4, 2) := by decide +kernel
theorem dX6_forgetLeaf_3 : decode cX6_forgetLeaf 3 = .ok (.lload_n 0, 1) := by decide +kernel
theorem dX6_forgetLeaf_4 : decode cX6_forgetLeaf 4 = .ok (.invokestatic 32, 3) := by decide +kernel
theorem dX6_forgetLeaf_7 : decode cX6_forgetLeaf 7 = .ok (.istore 6, 2) := by decide +kernel
theorem dX6_forgetLeaf_9 : decode cX6_forgetLeaf 9 = .ok (.iconst 0, 1) := by decide +kernel
theorem dX6_forgetLeaf_10 : decode cX6_forgetLeaf 10 = .ok (.istore 7, 2) := by decide +kernel
theorem dX6_forgetLeaf_12 : decode cX6_forgetLeaf 12 = .ok (.iload 7, 2) := by decide +kernel
theorem dX6_forgetLeaf_14 : decode cX6_forgetLeaf 14 = .ok (.iload 6, 2) := by decide +kernel
theorem dX6_forgetLeaf_16 : decode cX6_forgetLeaf 16 = .ok (.if_icmp .ge 42, 3) := by decide +kernel
theorem dX6_forgetLeaf_19 : decode cX6_forgetLeaf 19 = .ok (.lload_n 0, 1) := by decide +kernel
theorem dX6_forgetLeaf_20 : decode cX6_forgetLeaf 20 = .ok (.iload 7, 2) := by decide +kernel
theorem dX6_forgetLeaf_22 : decode cX6_forgetLeaf 22 = .ok (.invokestatic 35, 3) := by decide +kernel
theorem dX6_forgetLeaf_25 : decode cX6_forgetLeaf 25 = .ok (.iload_n 2, 1) := by decide +kernel
theorem dX6_forgetLeaf_26 : decode cX6_forgetLeaf 26 = .ok (.iload_n 3, 1) := by decide +kernel
theorem dX6_forgetLeaf_27 : decode cX6_forgetLeaf 27 = .ok (.invokestatic 63, 3) := by decide +kernel
theorem dX6_forgetLeaf_30 : decode cX6_forgetLeaf 30 = .ok (.istore 8, 2) := by decide +kernel
theorem dX6_forgetLeaf_32 : decode cX6_forgetLeaf 32 = .ok (.iload 8, 2) := by decide +kernel
theorem dX6_forgetLeaf_34 : decode cX6_forgetLeaf 34 = .ok (.iload_n 2, 1) := by decide +kernel
theorem dX6_forgetLeaf_35 : decode cX6_forgetLeaf 35 = .ok (.iconst 1, 1) := by decide +kernel
theorem dX6_forgetLeaf_36 : decode cX6_forgetLeaf 36 = .ok (.isub, 1) := by decide +kernel
theorem dX6_forgetLeaf_37 : decode cX6_forgetLeaf 37 = .ok (.invokestatic 57, 3) := by decide +kernel
theorem dX6_forgetLeaf_40 : decode cX6_forgetLeaf 40 = .ok (.ifCond .eq 12, 3) := by decide +kernel
theorem dX6_forgetLeaf_43 : decode cX6_forgetLeaf 43 = .ok (.lload 4, 2) := by decide +kernel
theorem dX6_forgetLeaf_45 : decode cX6_forgetLeaf 45 = .ok (.iload 8, 2) := by decide +kernel
theorem dX6_forgetLeaf_47 : decode cX6_forgetLeaf 47 = .ok (.invokestatic 42, 3) := by decide +kernel
theorem dX6_forgetLeaf_50 : decode cX6_forgetLeaf 50 = .ok (.lstore 4, 2) := by decide +kernel
theorem dX6_forgetLeaf_52 : decode cX6_forgetLeaf 52 = .ok (.iinc 7 1, 3) := by decide +kernel
theorem dX6_forgetLeaf_55 : decode cX6_forgetLeaf 55 = .ok (.goto (-43), 3) := by decide +kernel
theorem dX6_forgetLeaf_58 : decode cX6_forgetLeaf 58 = .ok (.lload 4, 2) := by decide +kernel
theorem dX6_forgetLeaf_60 : decode cX6_forgetLeaf 60 = .ok (.lreturn, 1) := by decide +kernel
theorem dX6_leftWithout_0 : decode cX6_leftWithout 0 = .ok (.iload_n 0, 1) := by decide +kernel
theorem dX6_leftWithout_1 : decode cX6_leftWithout 1 = .ok (.iconst 1, 1) := by decide +kernel
theorem dX6_leftWithout_2 : decode cX6_leftWithout 2 = .ok (.iload_n 2, 1) := by decide +kernel
theorem dX6_leftWithout_3 : decode cX6_leftWithout 3 = .ok (.ishl, 1) := by decide +kernel
theorem dX6_leftWithout_4 : decode cX6_leftWithout 4 = .ok (.iconst 1, 1) := by decide +kernel
theorem dX6_leftWithout_5 : decode cX6_leftWithout 5 = .ok (.isub, 1) := by decide +kernel
theorem dX6_leftWithout_6 : decode cX6_leftWithout 6 = .ok (.iand, 1) := by decide +kernel
theorem dX6_leftWithout_7 : decode cX6_leftWithout 7 = .ok (.istore_n 3, 1) := by decide +kernel
theorem dX6_leftWithout_8 : decode cX6_leftWithout 8 = .ok (.iload_n 0, 1) := by decide +kernel
theorem dX6_leftWithout_9 : decode cX6_leftWithout 9 = .ok (.iload_n 2, 1) := by decide +kernel
theorem dX6_leftWithout_10 : decode cX6_leftWithout 10 = .ok (.iconst 1, 1) := by decide +kernel
theorem dX6_leftWithout_11 : decode cX6_leftWithout 11 = .ok (.iadd, 1) := by decide +kernel
theorem dX6_leftWithout_12 : decode cX6_leftWithout 12 = .ok (.ishr, 1) := by decide +kernel
theorem dX6_leftWithout_13 : decode cX6_leftWithout 13 = .ok (.iload_n 2, 1) := by decide +kernel
theorem dX6_leftWithout_14 : decode cX6_leftWithout 14 = .ok (.ishl, 1) := by decide +kernel
theorem dX6_leftWithout_15 : decode cX6_leftWithout 15 = .ok (.istore 4, 2) := by decide +kernel
theorem dX6_leftWithout_17 : decode cX6_leftWithout 17 = .ok (.iload_n 3, 1) := by decide +kernel
theorem dX6_leftWithout_18 : decode cX6_leftWithout 18 = .ok (.iload 4, 2) := by decide +kernel
theorem dX6_leftWithout_20 : decode cX6_leftWithout 20 = .ok (.ior, 1) := by decide +kernel
theorem dX6_leftWithout_21 : decode cX6_leftWithout 21 = .ok (.istore 5, 2) := by decide +kernel
theorem dX6_leftWithout_23 : decode cX6_leftWithout 23 = .ok (.iconst 1, 1) := by decide +kernel
theorem dX6_leftWithout_24 : decode cX6_leftWithout 24 = .ok (.iload_n 1, 1) := by decide +kernel
theorem dX6_leftWithout_25 : decode cX6_leftWithout 25 = .ok (.iconst 1, 1) := by decide +kernel
theorem dX6_leftWithout_26 : decode cX6_leftWithout 26 = .ok (.isub, 1) := by decide +kernel
theorem dX6_leftWithout_27 : decode cX6_leftWithout 27 = .ok (.ishl, 1) := by decide +kernel
theorem dX6_leftWithout_28 : decode cX6_leftWithout 28 = .ok (.iconst 1, 1) := by decide +kernel
theorem dX6_leftWithout_29 : decode cX6_leftWithout 29 = .ok (.isub, 1) := by decide +kernel
theorem dX6_leftWithout_30 : decode cX6_leftWithout 30 = .ok (.istore 6, 2) := by decide +kernel
theorem dX6_leftWithout_32 : decode cX6_leftWithout 32 = .ok (.iload 5, 2) := by decide +kernel
theorem dX6_leftWithout_34 : decode cX6_leftWithout 34 = .ok (.iconst 1, 1) := by decide +kernel
theorem dX6_leftWithout_35 : decode cX6_leftWithout 35 = .ok (.iand, 1) := by decide +kernel
theorem dX6_leftWithout_36 : decode cX6_leftWithout 36 = .ok (.ifCond .eq 11, 3) := by decide +kernel
theorem dX6_leftWithout_39 : decode cX6_leftWithout 39 = .ok (.iload 6, 2) := by decide +kernel
theorem dX6_leftWithout_41 : decode cX6_leftWithout 41 = .ok (.iload 5, 2) := by decide +kernel
theorem dX6_leftWithout_43 : decode cX6_leftWithout 43 = .ok (.ixor, 1) := by decide +kernel
theorem dX6_leftWithout_44 : decode cX6_leftWithout 44 = .ok (.goto 5, 3) := by decide +kernel
theorem dX6_leftWithout_47 : decode cX6_leftWithout 47 = .ok (.iload 5, 2) := by decide +kernel
theorem dX6_leftWithout_49 : decode cX6_leftWithout 49 = .ok (.ireturn, 1) := by decide +kernel
theorem dX7_init_0 : decode cX7_init 0 = .ok (.aload_n 0, 1) := by decide +kernel
theorem dX7_init_1 : decode cX7_init 1 = .ok (.invokespecial 3, 3) := by decide +kernel
theorem dX7_init_4 : decode cX7_init 4 = .ok (.aload_n 0, 1) := by decide +kernel
theorem dX7_init_5 : decode cX7_init 5 = .ok (.bipush 60, 2) := by decide +kernel
theorem dX7_init_7 : decode cX7_init 7 = .ok (.newarray .int, 2) := by decide +kernel
theorem dX7_init_9 : decode cX7_init 9 = .ok (.putfield 11, 3) := by decide +kernel
theorem dX7_init_12 : decode cX7_init 12 = .ok (.return_, 1) := by decide +kernel
theorem dX7_add_0 : decode cX7_add 0 = .ok (.aload_n 0, 1) := by decide +kernel
theorem dX7_add_1 : decode cX7_add 1 = .ok (.getfield 15, 3) := by decide +kernel
theorem dX7_add_4 : decode cX7_add 4 = .ok (.bipush 60, 2) := by decide +kernel
theorem dX7_add_6 : decode cX7_add 6 = .ok (.if_icmp .ge 23, 3) := by decide +kernel
theorem dX7_add_9 : decode cX7_add 9 = .ok (.aload_n 0, 1) := by decide +kernel
theorem dX7_add_10 : decode cX7_add 10 = .ok (.getfield 11, 3) := by decide +kernel
theorem dX7_add_13 : decode cX7_add 13 = .ok (.aload_n 0, 1) := by decide +kernel
theorem dX7_add_14 : decode cX7_add 14 = .ok (.getfield 15, 3) := by decide +kernel
theorem dX7_add_17 : decode cX7_add 17 = .ok (.iload_n 1, 1) := by decide +kernel
theorem dX7_add_18 : decode cX7_add 18 = .ok (.iastore, 1) := by decide +kernel
theorem dX7_add_19 : decode cX7_add 19 = .ok (.aload_n 0, 1) := by decide +kernel
theorem dX7_add_20 : decode cX7_add 20 = .ok (.dup, 1) := by decide +kernel
theorem dX7_add_21 : decode cX7_add 21 = .ok (.getfield 15, 3) := by decide +kernel
theorem dX7_add_24 : decode cX7_add 24 = .ok (.iconst 1, 1) := by decide +kernel
theorem dX7_add_25 : decode cX7_add 25 = .ok (.iadd, 1) := by decide +kernel
theorem dX7_add_26 : decode cX7_add 26 = .ok (.putfield 15, 3) := by decide +kernel
theorem dX7_add_29 : decode cX7_add 29 = .ok (.return_, 1) := by decide +kernel
theorem dX7_byteAt_0 : decode cX7_byteAt 0 = .ok (.iload_n 1, 1) := by decide +kernel
theorem dX7_byteAt_1 : decode cX7_byteAt 1 = .ok (.ifCond .lt 26, 3) := by decide +kernel
theorem dX7_byteAt_4 : decode cX7_byteAt 4 = .ok (.iload_n 1, 1) := by decide +kernel
theorem dX7_byteAt_5 : decode cX7_byteAt 5 = .ok (.aload_n 0, 1) := by decide +kernel
theorem dX7_byteAt_6 : decode cX7_byteAt 6 = .ok (.getfield 15, 3) := by decide +kernel
theorem dX7_byteAt_9 : decode cX7_byteAt 9 = .ok (.if_icmp .ge 18, 3) := by decide +kernel
theorem dX7_byteAt_12 : decode cX7_byteAt 12 = .ok (.iload_n 1, 1) := by decide +kernel
theorem dX7_byteAt_13 : decode cX7_byteAt 13 = .ok (.bipush 60, 2) := by decide +kernel
theorem dX7_byteAt_15 : decode cX7_byteAt 15 = .ok (.if_icmp .ge 12, 3) := by decide +kernel
theorem dX7_byteAt_18 : decode cX7_byteAt 18 = .ok (.aload_n 0, 1) := by decide +kernel
theorem dX7_byteAt_19 : decode cX7_byteAt 19 = .ok (.getfield 11, 3) := by decide +kernel
theorem dX7_byteAt_22 : decode cX7_byteAt 22 = .ok (.iload_n 1, 1) := by decide +kernel
theorem dX7_byteAt_23 : decode cX7_byteAt 23 = .ok (.iaload, 1) := by decide +kernel
theorem dX7_byteAt_24 : decode cX7_byteAt 24 = .ok (.goto 4, 3) := by decide +kernel
theorem dX7_byteAt_27 : decode cX7_byteAt 27 = .ok (.iconst (-1), 1) := by decide +kernel
theorem dX7_byteAt_28 : decode cX7_byteAt 28 = .ok (.ireturn, 1) := by decide +kernel
set_option maxRecDepth 20000 in
theorem ggX7_isFigure_X7_byteAt : GoodIn wsX7_isFigure wsX7_byteAt := goodIn_r _ [5, 6, 7, 8, 9] (by decide +kernel) (by decide +kernel)
set_option maxRecDepth 20000 in
theorem gX7_isFigure_X7_byteAt : GoodIn wsX7_isFigure (wsV RX7 19 RX7 yX7_byteAt wsX7_byteAt) := goodIn_app (goodIn_of _ (by decide +kernel)) ggX7_isFigure_X7_byteAt
theorem dX7_isFigure_0 : decode cX7_isFigure 0 = .ok (.aload_n 0, 1) := by decide +kernel
theorem dX7_isFigure_1 : decode cX7_isFigure 1 = .ok (.iload_n 1, 1) := by decide +kernel
theorem dX7_isFigure_2 : decode cX7_isFigure 2 = .ok (.invokevirtual 19, 3) := by decide +kernel
theorem dX7_isFigure_5 : decode cX7_isFigure 5 = .ok (.istore_n 2, 1) := by decide +kernel
theorem dX7_isFigure_6 : decode cX7_isFigure 6 = .ok (.iload_n 2, 1) := by decide +kernel
theorem dX7_isFigure_7 : decode cX7_isFigure 7 = .ok (.bipush 48, 2) := by decide +kernel
theorem dX7_isFigure_9 : decode cX7_isFigure 9 = .ok (.if_icmp .lt 13, 3) := by decide +kernel
theorem dX7_isFigure_12 : decode cX7_isFigure 12 = .ok (.iload_n 2, 1) := by decide +kernel
theorem dX7_isFigure_13 : decode cX7_isFigure 13 = .ok (.bipush 57, 2) := by decide +kernel
theorem dX7_isFigure_15 : decode cX7_isFigure 15 = .ok (.if_icmp .gt 7, 3) := by decide +kernel
theorem dX7_isFigure_18 : decode cX7_isFigure 18 = .ok (.iconst 1, 1) := by decide +kernel
theorem dX7_isFigure_19 : decode cX7_isFigure 19 = .ok (.goto 4, 3) := by decide +kernel
theorem dX7_isFigure_22 : decode cX7_isFigure 22 = .ok (.iconst 0, 1) := by decide +kernel
theorem dX7_isFigure_23 : decode cX7_isFigure 23 = .ok (.ireturn, 1) := by decide +kernel
set_option maxRecDepth 20000 in
theorem ggX7_figureAt_X7_byteAt : GoodIn wsX7_figureAt wsX7_byteAt := goodIn_r _ [5, 6, 7, 8, 9] (by decide +kernel) (by decide +kernel)
set_option maxRecDepth 20000 in
theorem gX7_figureAt_X7_byteAt : GoodIn wsX7_figureAt (wsV RX7 19 RX7 yX7_byteAt wsX7_byteAt) := goodIn_app (goodIn_of _ (by decide +kernel)) ggX7_figureAt_X7_byteAt
theorem dX7_figureAt_0 : decode cX7_figureAt 0 = .ok (.aload_n 0, 1) := by decide +kernel
theorem dX7_figureAt_1 : decode cX7_figureAt 1 = .ok (.iload_n 1, 1) := by decide +kernel
theorem dX7_figureAt_2 : decode cX7_figureAt 2 = .ok (.invokevirtual 19, 3) := by decide +kernel
theorem dX7_figureAt_5 : decode cX7_figureAt 5 = .ok (.bipush 48, 2) := by decide +kernel
theorem dX7_figureAt_7 : decode cX7_figureAt 7 = .ok (.isub, 1) := by decide +kernel
theorem dX7_figureAt_8 : decode cX7_figureAt 8 = .ok (.ireturn, 1) := by decide +kernel
set_option maxRecDepth 20000 in
theorem ggX7_firstOf_X7_byteAt : GoodIn wsX7_firstOf wsX7_byteAt := goodIn_r _ [5, 6, 7, 8, 9] (by decide +kernel) (by decide +kernel)
set_option maxRecDepth 20000 in
theorem gX7_firstOf_X7_byteAt : GoodIn wsX7_firstOf (wsV RX7 19 RX7 yX7_byteAt wsX7_byteAt) := goodIn_app (goodIn_of _ (by decide +kernel)) ggX7_firstOf_X7_byteAt
theorem dX7_firstOf_0 : decode cX7_firstOf 0 = .ok (.iconst 0, 1) := by decide +kernel
theorem dX7_firstOf_1 : decode cX7_firstOf 1 = .ok (.istore_n 3, 1) := by decide +kernel
theorem dX7_firstOf_2 : decode cX7_firstOf 2 = .ok (.iload_n 3, 1) := by decide +kernel
theorem dX7_firstOf_3 : decode cX7_firstOf 3 = .ok (.iload_n 2, 1) := by decide +kernel
theorem dX7_firstOf_4 : decode cX7_firstOf 4 = .ok (.if_icmp .ge 20, 3) := by decide +kernel
theorem dX7_firstOf_7 : decode cX7_firstOf 7 = .ok (.aload_n 0, 1) := by decide +kernel
theorem dX7_firstOf_8 : decode cX7_firstOf 8 = .ok (.iload_n 3, 1) := by decide +kernel
theorem dX7_firstOf_9 : decode cX7_firstOf 9 = .ok (.invokevirtual 19, 3) := by decide +kernel
theorem dX7_firstOf_12 : decode cX7_firstOf 12 = .ok (.iload_n 1, 1) := by decide +kernel
theorem dX7_firstOf_13 : decode cX7_firstOf 13 = .ok (.if_icmp .ne 5, 3) := by decide +kernel
theorem dX7_firstOf_16 : decode cX7_firstOf 16 = .ok (.iload_n 3, 1) := by decide +kernel
theorem dX7_firstOf_17 : decode cX7_firstOf 17 = .ok (.ireturn, 1) := by decide +kernel
theorem dX7_firstOf_18 : decode cX7_firstOf 18 = .ok (.iinc 3 1, 3) := by decide +kernel
theorem dX7_firstOf_21 : decode cX7_firstOf 21 = .ok (.goto (-19), 3) := by decide +kernel
theorem dX7_firstOf_24 : decode cX7_firstOf 24 = .ok (.iconst (-1), 1) := by decide +kernel
theorem dX7_firstOf_25 : decode cX7_firstOf 25 = .ok (.ireturn, 1) := by decide +kernel
set_option maxRecDepth 20000 in
theorem ggX7_timesAhead_X7_byteAt : GoodIn wsX7_timesAhead wsX7_byteAt := goodIn_r _ [5, 6, 7, 8, 9] (by decide +kernel) (by decide +kernel)
set_option maxRecDepth 20000 in
theorem gX7_timesAhead_X7_byteAt : GoodIn wsX7_timesAhead (wsV RX7 19 RX7 yX7_byteAt wsX7_byteAt) := goodIn_app (goodIn_of _ (by decide +kernel)) ggX7_timesAhead_X7_byteAt
theorem dX7_timesAhead_0 : decode cX7_timesAhead 0 = .ok (.iconst 0, 1) := by decide +kernel
theorem dX7_timesAhead_1 : decode cX7_timesAhead 1 = .ok (.istore_n 3, 1) := by decide +kernel
theorem dX7_timesAhead_2 : decode cX7_timesAhead 2 = .ok (.iconst 0, 1) := by decide +kernel
theorem dX7_timesAhead_3 : decode cX7_timesAhead 3 = .ok (.istore 4, 2) := by decide +kernel
theorem dX7_timesAhead_5 : decode cX7_timesAhead 5 = .ok (.iload 4, 2) := by decide +kernel
theorem dX7_timesAhead_7 : decode cX7_timesAhead 7 = .ok (.iload_n 2, 1) := by decide +kernel
theorem dX7_timesAhead_8 : decode cX7_timesAhead 8 = .ok (.if_icmp .ge 22, 3) := by decide +kernel
theorem dX7_timesAhead_11 : decode cX7_timesAhead 11 = .ok (.aload_n 0, 1) := by decide +kernel
theorem dX7_timesAhead_12 : decode cX7_timesAhead 12 = .ok (.iload 4, 2) := by decide +kernel
theorem dX7_timesAhead_14 : decode cX7_timesAhead 14 = .ok (.invokevirtual 19, 3) := by decide +kernel
theorem dX7_timesAhead_17 : decode cX7_timesAhead 17 = .ok (.iload_n 1, 1) := by decide +kernel
theorem dX7_timesAhead_18 : decode cX7_timesAhead 18 = .ok (.if_icmp .ne 6, 3) := by decide +kernel
theorem dX7_timesAhead_21 : decode cX7_timesAhead 21 = .ok (.iinc 3 1, 3) := by decide +kernel
theorem dX7_timesAhead_24 : decode cX7_timesAhead 24 = .ok (.iinc 4 1, 3) := by decide +kernel
theorem dX7_timesAhead_27 : decode cX7_timesAhead 27 = .ok (.goto (-22), 3) := by decide +kernel
theorem dX7_timesAhead_30 : decode cX7_timesAhead 30 = .ok (.iload_n 3, 1) := by decide +kernel
theorem dX7_timesAhead_31 : decode cX7_timesAhead 31 = .ok (.ireturn, 1) := by decide +kernel
set_option maxRecDepth 20000 in
theorem ggX8_init_X1_init : GoodIn wsX8_init wsX1_init := goodIn_r _ [33, 34, 2, 3, 35, 36, 37, 80, 81, 82, 83, 84] (by decide +kernel) (by decide +kernel)
set_option maxRecDepth 20000 in
theorem gX8_init_X1_init : GoodIn wsX8_init (wsX1_init) := ggX8_init_X1_init
set_option maxRecDepth 20000 in
theorem ggX8_init_X0_init : GoodIn wsX8_init wsX0_init := goodIn_r _ [40, 41, 2, 3, 42, 43, 5, 6, 44, 32, 33, 34, 35, 36, 37, 94, 95, 96, 80, 81, 82, 83, 84] (by decide +kernel) (by decide +kernel)
set_option maxRecDepth 20000 in
theorem gX8_init_X0_init : GoodIn wsX8_init (wsX0_init) := ggX8_init_X0_init
set_option maxRecDepth 20000 in
theorem ggX8_init_X3_init : GoodIn wsX8_init wsX3_init := goodIn_r _ [47, 48, 2, 3, 49, 50, 51, 35, 52, 97, 98, 99, 100, 101, 102, 103] (by decide +kernel) (by decide +kernel)
set_option maxRecDepth 20000 in
theorem gX8_init_X3_init : GoodIn wsX8_init (wsX3_init) := ggX8_init_X3_init
set_option maxRecDepth 20000 in
theorem ggX8_init_X4_init : GoodIn wsX8_init wsX4_init := goodIn_r _ [55, 56, 2, 3, 57, 58, 59, 60, 61, 5, 6, 62, 35, 63, 64, 65, 66, 67, 68, 69, 32, 33, 34, 36, 37, 118, 119, 104, 105, 106, 107, 108, 109, 80, 81, 82, 83, 84] (by decide +kernel) (by decide +kernel)
set_option maxRecDepth 20000 in
theorem gX8_init_X4_init : GoodIn wsX8_init (wsX4_init) := ggX8_init_X4_init
set_option maxRecDepth 20000 in
theorem ggX8_init_X5_init : GoodIn wsX8_init wsX5_init := goodIn_r _ [72, 73, 2, 3, 35, 74, 110, 111] (by decide +kernel) (by decide +kernel)
set_option maxRecDepth 20000 in
theorem gX8_init_X5_init : GoodIn wsX8_init (wsX5_init) := ggX8_init_X5_init
set_option maxRecDepth 20000 in
theorem ggX8_init_X2_init : GoodIn wsX8_init wsX2_init := goodIn_r _ [77, 78, 2, 3, 35, 79, 112, 113, 114, 115, 116, 117] (by decide +kernel) (by decide +kernel)
set_option maxRecDepth 20000 in
theorem gX8_init_X2_init : GoodIn wsX8_init (wsX2_init) := ggX8_init_X2_init
theorem dX8_init_0 : decode cX8_init 0 = .ok (.aload_n 0, 1) := by decide +kernel
theorem dX8_init_1 : decode cX8_init 1 = .ok (.invokespecial 3, 3) := by decide +kernel
theorem dX8_init_4 : decode cX8_init 4 = .ok (.aload_n 0, 1) := by decide +kernel
theorem dX8_init_5 : decode cX8_init 5 = .ok (.new 9, 3) := by decide +kernel
theorem dX8_init_8 : decode cX8_init 8 = .ok (.dup, 1) := by decide +kernel
theorem dX8_init_9 : decode cX8_init 9 = .ok (.invokespecial 11, 3) := by decide +kernel
theorem dX8_init_12 : decode cX8_init 12 = .ok (.putfield 12, 3) := by decide +kernel
theorem dX8_init_15 : decode cX8_init 15 = .ok (.aload_n 0, 1) := by decide +kernel
theorem dX8_init_16 : decode cX8_init 16 = .ok (.new 9, 3) := by decide +kernel
theorem dX8_init_19 : decode cX8_init 19 = .ok (.dup, 1) := by decide +kernel
theorem dX8_init_20 : decode cX8_init 20 = .ok (.invokespecial 11, 3) := by decide +kernel
theorem dX8_init_23 : decode cX8_init 23 = .ok (.putfield 18, 3) := by decide +kernel
theorem dX8_init_26 : decode cX8_init 26 = .ok (.aload_n 0, 1) := by decide +kernel
theorem dX8_init_27 : decode cX8_init 27 = .ok (.new 21, 3) := by decide +kernel
theorem dX8_init_30 : decode cX8_init 30 = .ok (.dup, 1) := by decide +kernel
theorem dX8_init_31 : decode cX8_init 31 = .ok (.invokespecial 23, 3) := by decide +kernel
theorem dX8_init_34 : decode cX8_init 34 = .ok (.putfield 24, 3) := by decide +kernel
theorem dX8_init_37 : decode cX8_init 37 = .ok (.aload_n 0, 1) := by decide +kernel
theorem dX8_init_38 : decode cX8_init 38 = .ok (.new 28, 3) := by decide +kernel
theorem dX8_init_41 : decode cX8_init 41 = .ok (.dup, 1) := by decide +kernel
theorem dX8_init_42 : decode cX8_init 42 = .ok (.invokespecial 30, 3) := by decide +kernel
theorem dX8_init_45 : decode cX8_init 45 = .ok (.putfield 31, 3) := by decide +kernel
theorem dX8_init_48 : decode cX8_init 48 = .ok (.aload_n 0, 1) := by decide +kernel
theorem dX8_init_49 : decode cX8_init 49 = .ok (.new 35, 3) := by decide +kernel
theorem dX8_init_52 : decode cX8_init 52 = .ok (.dup, 1) := by decide +kernel
theorem dX8_init_53 : decode cX8_init 53 = .ok (.invokespecial 37, 3) := by decide +kernel
theorem dX8_init_56 : decode cX8_init 56 = .ok (.putfield 38, 3) := by decide +kernel
theorem dX8_init_59 : decode cX8_init 59 = .ok (.aload_n 0, 1) := by decide +kernel
theorem dX8_init_60 : decode cX8_init 60 = .ok (.aload_n 0, 1) := by decide +kernel
theorem dX8_init_61 : decode cX8_init 61 = .ok (.getfield 38, 3) := by decide +kernel
theorem dX8_init_64 : decode cX8_init 64 = .ok (.getfield 42, 3) := by decide +kernel
theorem dX8_init_67 : decode cX8_init 67 = .ok (.putfield 46, 3) := by decide +kernel
theorem dX8_init_70 : decode cX8_init 70 = .ok (.aload_n 0, 1) := by decide +kernel
theorem dX8_init_71 : decode cX8_init 71 = .ok (.new 47, 3) := by decide +kernel
theorem dX8_init_74 : decode cX8_init 74 = .ok (.dup, 1) := by decide +kernel
theorem dX8_init_75 : decode cX8_init 75 = .ok (.invokespecial 49, 3) := by decide +kernel
theorem dX8_init_78 : decode cX8_init 78 = .ok (.putfield 50, 3) := by decide +kernel
theorem dX8_init_81 : decode cX8_init 81 = .ok (.aload_n 0, 1) := by decide +kernel
theorem dX8_init_82 : decode cX8_init 82 = .ok (.bipush 6, 2) := by decide +kernel
theorem dX8_init_84 : decode cX8_init 84 = .ok (.anewarray 54, 3) := by decide +kernel
theorem dX8_init_87 : decode cX8_init 87 = .ok (.putfield 56, 3) := by decide +kernel
theorem dX8_init_90 : decode cX8_init 90 = .ok (.iconst 0, 1) := by decide +kernel
theorem dX8_init_91 : decode cX8_init 91 = .ok (.istore_n 1, 1) := by decide +kernel
theorem dX8_init_92 : decode cX8_init 92 = .ok (.iload_n 1, 1) := by decide +kernel
theorem dX8_init_93 : decode cX8_init 93 = .ok (.bipush 6, 2) := by decide +kernel
theorem dX8_init_95 : decode cX8_init 95 = .ok (.if_icmp .ge 22, 3) := by decide +kernel
theorem dX8_init_98 : decode cX8_init 98 = .ok (.aload_n 0, 1) := by decide +kernel
theorem dX8_init_99 : decode cX8_init 99 = .ok (.getfield 56, 3) := by decide +kernel
theorem dX8_init_102 : decode cX8_init 102 = .ok (.iload_n 1, 1) := by decide +kernel
theorem dX8_init_103 : decode cX8_init 103 = .ok (.new 54, 3) := by decide +kernel
theorem dX8_init_106 : decode cX8_init 106 = .ok (.dup, 1) := by decide +kernel
theorem dX8_init_107 : decode cX8_init 107 = .ok (.invokespecial 60, 3) := by decide +kernel
theorem dX8_init_110 : decode cX8_init 110 = .ok (.aastore, 1) := by decide +kernel
theorem dX8_init_111 : decode cX8_init 111 = .ok (.iinc 1 1, 3) := by decide +kernel
theorem dX8_init_114 : decode cX8_init 114 = .ok (.goto (-22), 3) := by decide +kernel
theorem dX8_init_117 : decode cX8_init 117 = .ok (.return_, 1) := by decide +kernel
set_option maxRecDepth 20000 in
theorem ggX8_genus_X0_settle : GoodIn wsX8_genus wsX0_settle := goodIn_r _ [8, 9, 10, 11, 12, 13, 7, 14, 15, 16, 17, 18, 19, 20, 21, 22, 23, 24, 25, 26, 27, 28, 29, 30, 31, 32, 33, 34, 35, 36, 37, 38, 39, 40, 41, 56, 57, 58, 51, 52, 53, 54, 55] (by decide +kernel) (by decide +kernel)
set_option maxRecDepth 20000 in
theorem gX8_genus_X0_settle : GoodIn wsX8_genus (wsV RX8 65 RX0 yX0_settle wsX0_settle) := goodIn_app (goodIn_of _ (by decide +kernel)) ggX8_genus_X0_settle
theorem dX8_genus_0 : decode cX8_genus 0 = .ok (.iload_n 1, 1) := by decide +kernel
theorem dX8_genus_1 : decode cX8_genus 1 = .ok (.ifCond .lt 8, 3) := by decide +kernel
theorem dX8_genus_4 : decode cX8_genus 4 = .ok (.iload_n 1, 1) := by decide +kernel
theorem dX8_genus_5 : decode cX8_genus 5 = .ok (.iconst 2, 1) := by decide +kernel
theorem dX8_genus_6 : decode cX8_genus 6 = .ok (.if_icmp .le 5, 3) := by decide +kernel
theorem dX8_genus_9 : decode cX8_genus 9 = .ok (.iconst (-1), 1) := by decide +kernel
theorem dX8_genus_10 : decode cX8_genus 10 = .ok (.ireturn, 1) := by decide +kernel
theorem dX8_genus_11 : decode cX8_genus 11 = .ok (.aload_n 0, 1) := by decide +kernel
theorem dX8_genus_12 : decode cX8_genus 12 = .ok (.getfield 12, 3) := by decide +kernel
theorem dX8_genus_15 : decode cX8_genus 15 = .ok (.getfield 61, 3) := by decide +kernel
theorem dX8_genus_18 : decode cX8_genus 18 = .ok (.istore_n 2, 1) := by decide +kernel
theorem dX8_genus_19 : decode cX8_genus 19 = .ok (.aload_n 0, 1) := by decide +kernel
theorem dX8_genus_20 : decode cX8_genus 20 = .ok (.getfield 12, 3) := by decide +kernel
theorem dX8_genus_23 : decode cX8_genus 23 = .ok (.iload_n 1, 1) := by decide +kernel
theorem dX8_genus_24 : decode cX8_genus 24 = .ok (.putfield 61, 3) := by decide +kernel
theorem dX8_genus_27 : decode cX8_genus 27 = .ok (.aload_n 0, 1) := by decide +kernel
theorem dX8_genus_28 : decode cX8_genus 28 = .ok (.getfield 24, 3) := by decide +kernel
theorem dX8_genus_31 : decode cX8_genus 31 = .ok (.aload_n 0, 1) := by decide +kernel
theorem dX8_genus_32 : decode cX8_genus 32 = .ok (.getfield 12, 3) := by decide +kernel
theorem dX8_genus_35 : decode cX8_genus 35 = .ok (.invokevirtual 65, 3) := by decide +kernel
theorem dX8_genus_38 : decode cX8_genus 38 = .ok (.iload_n 2, 1) := by decide +kernel
theorem dX8_genus_39 : decode cX8_genus 39 = .ok (.ireturn, 1) := by decide +kernel
set_option maxRecDepth 20000 in
theorem ggX8_mark_X8_isPower : GoodIn wsX8_mark wsX8_isPower := goodIn_r _ [7] (by decide +kernel) (by decide +kernel)
set_option maxRecDepth 20000 in
theorem gX8_mark_X8_isPower : GoodIn wsX8_mark (va_wsS RX8 69 yX8_isPower wsX8_isPower) := goodIn_app (goodIn_of _ (by decide +kernel)) ggX8_mark_X8_isPower
set_option maxRecDepth 20000 in
theorem ggX8_mark_X1_addMark : GoodIn wsX8_mark wsX1_addMark := goodIn_r _ [12, 13, 14, 15, 16, 11, 17, 18, 63, 64, 65, 66, 67] (by decide +kernel) (by decide +kernel)
set_option maxRecDepth 20000 in
theorem gX8_mark_X1_addMark : GoodIn wsX8_mark (wsV RX8 76 RX1 yX1_addMark wsX1_addMark) := goodIn_app (goodIn_of _ (by decide +kernel)) ggX8_mark_X1_addMark
set_option maxRecDepth 20000 in
theorem ggX8_mark_X0_settle : GoodIn wsX8_mark wsX0_settle := goodIn_r _ [23, 24, 25, 26, 27, 28, 22, 29, 30, 31, 32, 33, 11, 34, 35, 36, 37, 13, 38, 39, 40, 41, 42, 43, 44, 45, 18, 46, 47, 48, 49, 50, 51, 52, 53, 68, 69, 70, 63, 64, 65, 66, 67] (by decide +kernel) (by decide +kernel)
set_option maxRecDepth 20000 in
theorem gX8_mark_X0_settle : GoodIn wsX8_mark (wsV RX8 65 RX0 yX0_settle wsX0_settle) := goodIn_app (goodIn_of _ (by decide +kernel)) ggX8_mark_X0_settle
theorem dX8_mark_0 : decode cX8_mark 0 = .ok (.iload_n 1, 1) := by decide +kernel
theorem dX8_mark_1 : decode cX8_mark 1 = .ok (.invokestatic 69, 3) := by decide +kernel
theorem dX8_mark_4 : decode cX8_mark 4 = .ok (.ifCond .ne 5, 3) := by decide +kernel
theorem dX8_mark_7 : decode cX8_mark 7 = .ok (.iconst (-1), 1) := by decide +kernel
theorem dX8_mark_8 : decode cX8_mark 8 = .ok (.ireturn, 1) := by decide +kernel
theorem dX8_mark_9 : decode cX8_mark 9 = .ok (.aload_n 0, 1) := by decide +kernel
theorem dX8_mark_10 : decode cX8_mark 10 = .ok (.getfield 12, 3) := by decide +kernel
theorem dX8_mark_13 : decode cX8_mark 13 = .ok (.getfield 73, 3) := by decide +kernel
theorem dX8_mark_16 : decode cX8_mark 16 = .ok (.bipush 8, 2) := by decide +kernel
theorem dX8_mark_18 : decode cX8_mark 18 = .ok (.if_icmp .lt 6, 3) := by decide +kernel
theorem dX8_mark_21 : decode cX8_mark 21 = .ok (.bipush (-3), 2) := by decide +kernel
theorem dX8_mark_23 : decode cX8_mark 23 = .ok (.ireturn, 1) := by decide +kernel
theorem dX8_mark_24 : decode cX8_mark 24 = .ok (.aload_n 0, 1) := by decide +kernel
theorem dX8_mark_25 : decode cX8_mark 25 = .ok (.getfield 12, 3) := by decide +kernel
theorem dX8_mark_28 : decode cX8_mark 28 = .ok (.iload_n 1, 1) := by decide +kernel
theorem dX8_mark_29 : decode cX8_mark 29 = .ok (.invokevirtual 76, 3) := by decide +kernel
theorem dX8_mark_32 : decode cX8_mark 32 = .ok (.aload_n 0, 1) := by decide +kernel
theorem dX8_mark_33 : decode cX8_mark 33 = .ok (.getfield 24, 3) := by decide +kernel
theorem dX8_mark_36 : decode cX8_mark 36 = .ok (.aload_n 0, 1) := by decide +kernel
theorem dX8_mark_37 : decode cX8_mark 37 = .ok (.getfield 12, 3) := by decide +kernel
theorem dX8_mark_40 : decode cX8_mark 40 = .ok (.invokevirtual 65, 3) := by decide +kernel
theorem dX8_mark_43 : decode cX8_mark 43 = .ok (.aload_n 0, 1) := by decide +kernel
theorem dX8_mark_44 : decode cX8_mark 44 = .ok (.getfield 12, 3) := by decide +kernel
theorem dX8_mark_47 : decode cX8_mark 47 = .ok (.getfield 73, 3) := by decide +kernel
theorem dX8_mark_50 : decode cX8_mark 50 = .ok (.ireturn, 1) := by decide +kernel
set_option maxRecDepth 20000 in
theorem ggX8_take_X1_hasMark : GoodIn wsX8_take wsX1_hasMark := goodIn_r _ [8, 9, 63, 64, 65, 66, 67] (by decide +kernel) (by decide +kernel)
set_option maxRecDepth 20000 in
theorem gX8_take_X1_hasMark : GoodIn wsX8_take (wsV RX8 80 RX1 yX1_hasMark wsX1_hasMark) := goodIn_app (goodIn_of _ (by decide +kernel)) ggX8_take_X1_hasMark
set_option maxRecDepth 20000 in
theorem ggX8_take_X1_dropMark : GoodIn wsX8_take wsX1_dropMark := goodIn_r _ [13, 9, 14, 15, 16, 7, 17, 18, 19, 20, 21, 22, 63, 64, 65, 66, 67] (by decide +kernel) (by decide +kernel)
set_option maxRecDepth 20000 in
theorem gX8_take_X1_dropMark : GoodIn wsX8_take (wsV RX8 83 RX1 yX1_dropMark wsX1_dropMark) := goodIn_app (goodIn_of _ (by decide +kernel)) ggX8_take_X1_dropMark
set_option maxRecDepth 20000 in
theorem ggX8_take_X0_settle : GoodIn wsX8_take wsX0_settle := goodIn_r _ [27, 28, 29, 30, 31, 32, 26, 33, 34, 35, 36, 37, 7, 38, 39, 40, 41, 9, 42, 43, 44, 45, 14, 15, 16, 17, 18, 46, 47, 48, 49, 50, 51, 52, 53, 68, 69, 70, 63, 64, 65, 66, 67] (by decide +kernel) (by decide +kernel)
set_option maxRecDepth 20000 in
theorem gX8_take_X0_settle : GoodIn wsX8_take (wsV RX8 65 RX0 yX0_settle wsX0_settle) := goodIn_app (goodIn_of _ (by decide +kernel)) ggX8_take_X0_settle
theorem dX8_take_0 : decode cX8_take 0 = .ok (.aload_n 0, 1) := by decide +kernel
theorem dX8_take_1 : decode cX8_take 1 = .ok (.getfield 12, 3) := by decide +kernel
theorem dX8_take_4 : decode cX8_take 4 = .ok (.iload_n 1, 1) := by decide +kernel
theorem dX8_take_5 : decode cX8_take 5 = .ok (.invokevirtual 80, 3) := by decide +kernel
theorem dX8_take_8 : decode cX8_take 8 = .ok (.ifCond .ne 5, 3) := by decide +kernel
theorem dX8_take_11 : decode cX8_take 11 = .ok (.iconst (-1), 1) := by decide +kernel
theorem dX8_take_12 : decode cX8_take 12 = .ok (.ireturn, 1) := by decide +kernel
theorem dX8_take_13 : decode cX8_take 13 = .ok (.aload_n 0, 1) := by decide +kernel
theorem dX8_take_14 : decode cX8_take 14 = .ok (.getfield 12, 3) := by decide +kernel
theorem dX8_take_17 : decode cX8_take 17 = .ok (.iload_n 1, 1) := by decide +kernel
theorem dX8_take_18 : decode cX8_take 18 = .ok (.invokevirtual 83, 3) := by decide +kernel
theorem dX8_take_21 : decode cX8_take 21 = .ok (.aload_n 0, 1) := by decide +kernel
theorem dX8_take_22 : decode cX8_take 22 = .ok (.getfield 24, 3) := by decide +kernel
theorem dX8_take_25 : decode cX8_take 25 = .ok (.aload_n 0, 1) := by decide +kernel
theorem dX8_take_26 : decode cX8_take 26 = .ok (.getfield 12, 3) := by decide +kernel
theorem dX8_take_29 : decode cX8_take 29 = .ok (.invokevirtual 65, 3) := by decide +kernel
theorem dX8_take_32 : decode cX8_take 32 = .ok (.aload_n 0, 1) := by decide +kernel
theorem dX8_take_33 : decode cX8_take 33 = .ok (.getfield 12, 3) := by decide +kernel
theorem dX8_take_36 : decode cX8_take 36 = .ok (.getfield 73, 3) := by decide +kernel
theorem dX8_take_39 : decode cX8_take 39 = .ok (.ireturn, 1) := by decide +kernel
set_option maxRecDepth 20000 in
theorem ggX8_change_X1_hasMark : GoodIn wsX8_change wsX1_hasMark := goodIn_r _ [7, 8, 63, 64, 65, 66, 67] (by decide +kernel) (by decide +kernel)
set_option maxRecDepth 20000 in
theorem gX8_change_X1_hasMark : GoodIn wsX8_change (wsV RX8 80 RX1 yX1_hasMark wsX1_hasMark) := goodIn_app (goodIn_of _ (by decide +kernel)) ggX8_change_X1_hasMark
set_option maxRecDepth 20000 in
theorem ggX8_change_X8_isPower : GoodIn wsX8_change wsX8_isPower := goodIn_r _ [12] (by decide +kernel) (by decide +kernel)
set_option maxRecDepth 20000 in
theorem gX8_change_X8_isPower : GoodIn wsX8_change (va_wsS RX8 69 yX8_isPower wsX8_isPower) := goodIn_app (goodIn_of _ (by decide +kernel)) ggX8_change_X8_isPower
set_option maxRecDepth 20000 in
theorem ggX8_change_X1_powerAt : GoodIn wsX8_change wsX1_powerAt := goodIn_r _ [16, 17, 63, 64, 65, 66, 67] (by decide +kernel) (by decide +kernel)
set_option maxRecDepth 20000 in
theorem gX8_change_X1_powerAt : GoodIn wsX8_change (wsV RX8 86 RX1 yX1_powerAt wsX1_powerAt) := goodIn_app (goodIn_of _ (by decide +kernel)) ggX8_change_X1_powerAt
set_option maxRecDepth 20000 in
theorem ggX8_change_X1_setPower : GoodIn wsX8_change wsX1_setPower := goodIn_r _ [21, 17, 63, 64, 65, 66, 67] (by decide +kernel) (by decide +kernel)
set_option maxRecDepth 20000 in
theorem gX8_change_X1_setPower : GoodIn wsX8_change (wsV RX8 90 RX1 yX1_setPower wsX1_setPower) := goodIn_app (goodIn_of _ (by decide +kernel)) ggX8_change_X1_setPower
set_option maxRecDepth 20000 in
theorem ggX8_change_X0_settle : GoodIn wsX8_change wsX0_settle := goodIn_r _ [26, 27, 28, 29, 30, 31, 25, 32, 33, 34, 35, 36, 6, 37, 38, 39, 40, 8, 41, 42, 43, 44, 45, 14, 15, 16, 17, 46, 47, 48, 49, 50, 51, 52, 53, 68, 69, 70, 63, 64, 65, 66, 67] (by decide +kernel) (by decide +kernel)
set_option maxRecDepth 20000 in
theorem gX8_change_X0_settle : GoodIn wsX8_change (wsV RX8 65 RX0 yX0_settle wsX0_settle) := goodIn_app (goodIn_of _ (by decide +kernel)) ggX8_change_X0_settle
theorem dX8_change_0 : decode cX8_change 0 = .ok (.aload_n 0, 1) := by decide +kernel
theorem dX8_change_1 : decode cX8_change 1 = .ok (.getfield 12, 3) := by decide +kernel
theorem dX8_change_4 : decode cX8_change 4 = .ok (.iload_n 1, 1) := by decide +kernel
theorem dX8_change_5 : decode cX8_change 5 = .ok (.invokevirtual 80, 3) := by decide +kernel
theorem dX8_change_8 : decode cX8_change 8 = .ok (.ifCond .eq 10, 3) := by decide +kernel
theorem dX8_change_11 : decode cX8_change 11 = .ok (.iload_n 2, 1) := by decide +kernel
theorem dX8_change_12 : decode cX8_change 12 = .ok (.invokestatic 69, 3) := by decide +kernel
theorem dX8_change_15 : decode cX8_change 15 = .ok (.ifCond .ne 5, 3) := by decide +kernel
theorem dX8_change_18 : decode cX8_change 18 = .ok (.iconst (-1), 1) := by decide +kernel
theorem dX8_change_19 : decode cX8_change 19 = .ok (.ireturn, 1) := by decide +kernel
theorem dX8_change_20 : decode cX8_change 20 = .ok (.aload_n 0, 1) := by decide +kernel
theorem dX8_change_21 : decode cX8_change 21 = .ok (.getfield 12, 3) := by decide +kernel
theorem dX8_change_24 : decode cX8_change 24 = .ok (.iload_n 1, 1) := by decide +kernel
theorem dX8_change_25 : decode cX8_change 25 = .ok (.invokevirtual 86, 3) := by decide +kernel
theorem dX8_change_28 : decode cX8_change 28 = .ok (.istore_n 3, 1) := by decide +kernel
theorem dX8_change_29 : decode cX8_change 29 = .ok (.aload_n 0, 1) := by decide +kernel
theorem dX8_change_30 : decode cX8_change 30 = .ok (.getfield 12, 3) := by decide +kernel
theorem dX8_change_33 : decode cX8_change 33 = .ok (.iload_n 1, 1) := by decide +kernel
theorem dX8_change_34 : decode cX8_change 34 = .ok (.iload_n 2, 1) := by decide +kernel
theorem dX8_change_35 : decode cX8_change 35 = .ok (.invokevirtual 90, 3) := by decide +kernel
theorem dX8_change_38 : decode cX8_change 38 = .ok (.aload_n 0, 1) := by decide +kernel
theorem dX8_change_39 : decode cX8_change 39 = .ok (.getfield 24, 3) := by decide +kernel
theorem dX8_change_42 : decode cX8_change 42 = .ok (.aload_n 0, 1) := by decide +kernel
theorem dX8_change_43 : decode cX8_change 43 = .ok (.getfield 12, 3) := by decide +kernel
theorem dX8_change_46 : decode cX8_change 46 = .ok (.invokevirtual 65, 3) := by decide +kernel
theorem dX8_change_49 : decode cX8_change 49 = .ok (.iload_n 3, 1) := by decide +kernel
theorem dX8_change_50 : decode cX8_change 50 = .ok (.ireturn, 1) := by decide +kernel
set_option maxRecDepth 20000 in
theorem ggX8_order_X1_sortRising : GoodIn wsX8_order wsX1_sortRising := goodIn_r _ [7, 8, 9, 10, 11, 6, 12, 13, 14, 15, 16, 17, 18, 19, 20, 21, 72, 73, 74, 75, 76] (by decide +kernel) (by decide +kernel)
set_option maxRecDepth 20000 in
theorem gX8_order_X1_sortRising : GoodIn wsX8_order (wsV RX8 94 RX1 yX1_sortRising wsX1_sortRising) := goodIn_app (goodIn_of _ (by decide +kernel)) ggX8_order_X1_sortRising
set_option maxRecDepth 20000 in
theorem ggX8_order_X1_turnAbout : GoodIn wsX8_order wsX1_turnAbout := goodIn_r _ [25, 8, 14, 15, 16, 6, 17, 9, 10, 11, 12, 13, 18, 19, 20, 21, 72, 73, 74, 75, 76] (by decide +kernel) (by decide +kernel)
set_option maxRecDepth 20000 in
theorem gX8_order_X1_turnAbout : GoodIn wsX8_order (wsV RX8 97 RX1 yX1_turnAbout wsX1_turnAbout) := goodIn_app (goodIn_of _ (by decide +kernel)) ggX8_order_X1_turnAbout
set_option maxRecDepth 20000 in
theorem ggX8_order_X1_putFirstLast : GoodIn wsX8_order wsX1_putFirstLast := goodIn_r _ [29, 8, 14, 15, 16, 6, 17, 9, 10, 11, 12, 13, 18, 19, 20, 21, 72, 73, 74, 75, 76] (by decide +kernel) (by decide +kernel)
set_option maxRecDepth 20000 in
theorem gX8_order_X1_putFirstLast : GoodIn wsX8_order (wsV RX8 100 RX1 yX1_putFirstLast wsX1_putFirstLast) := goodIn_app (goodIn_of _ (by decide +kernel)) ggX8_order_X1_putFirstLast
set_option maxRecDepth 20000 in
theorem ggX8_order_X0_present : GoodIn wsX8_order wsX0_present := goodIn_r _ [34, 35, 36, 77, 78, 79] (by decide +kernel) (by decide +kernel)
set_option maxRecDepth 20000 in
theorem gX8_order_X0_present : GoodIn wsX8_order (wsV RX8 103 RX0 yX0_present wsX0_present) := goodIn_app (goodIn_of _ (by decide +kernel)) ggX8_order_X0_present
set_option maxRecDepth 20000 in
theorem ggX8_order_X1_unlikePowers : GoodIn wsX8_order wsX1_unlikePowers := goodIn_r _ [40, 8, 9, 10, 11, 6, 12, 13, 72, 73, 74, 75, 76] (by decide +kernel) (by decide +kernel)
set_option maxRecDepth 20000 in
theorem gX8_order_X1_unlikePowers : GoodIn wsX8_order (wsV RX8 107 RX1 yX1_unlikePowers wsX1_unlikePowers) := goodIn_app (goodIn_of _ (by decide +kernel)) ggX8_order_X1_unlikePowers
set_option maxRecDepth 20000 in
theorem ggX8_order_X0_settle : GoodIn wsX8_order wsX0_settle := goodIn_r _ [44, 35, 45, 46, 31, 32, 33, 34, 36, 47, 48, 49, 6, 50, 51, 52, 53, 8, 54, 38, 39, 40, 9, 10, 11, 12, 13, 55, 56, 57, 58, 59, 60, 61, 62, 77, 78, 79, 72, 73, 74, 75, 76] (by decide +kernel) (by decide +kernel)
set_option maxRecDepth 20000 in
theorem gX8_order_X0_settle : GoodIn wsX8_order (wsV RX8 65 RX0 yX0_settle wsX0_settle) := goodIn_app (goodIn_of _ (by decide +kernel)) ggX8_order_X0_settle
theorem dX8_order_0 : decode cX8_order 0 = .ok (.iload_n 1, 1) := by decide +kernel
theorem dX8_order_1 : decode cX8_order 1 = .ok (.ifCond .lt 8, 3) := by decide +kernel
theorem dX8_order_4 : decode cX8_order 4 = .ok (.iload_n 1, 1) := by decide +kernel
theorem dX8_order_5 : decode cX8_order 5 = .ok (.iconst 3, 1) := by decide +kernel
theorem dX8_order_6 : decode cX8_order 6 = .ok (.if_icmp .le 5, 3) := by decide +kernel
theorem dX8_order_9 : decode cX8_order 9 = .ok (.iconst (-1), 1) := by decide +kernel
theorem dX8_order_10 : decode cX8_order 10 = .ok (.ireturn, 1) := by decide +kernel
theorem dX8_order_11 : decode cX8_order 11 = .ok (.iload_n 1, 1) := by decide +kernel
theorem dX8_order_12 : decode cX8_order 12 = .ok (.ifCond .eq 8, 3) := by decide +kernel
theorem dX8_order_15 : decode cX8_order 15 = .ok (.iload_n 1, 1) := by decide +kernel
theorem dX8_order_16 : decode cX8_order 16 = .ok (.iconst 1, 1) := by decide +kernel
theorem dX8_order_17 : decode cX8_order 17 = .ok (.if_icmp .ne 10, 3) := by decide +kernel
theorem dX8_order_20 : decode cX8_order 20 = .ok (.aload_n 0, 1) := by decide +kernel
theorem dX8_order_21 : decode cX8_order 21 = .ok (.getfield 12, 3) := by decide +kernel
theorem dX8_order_24 : decode cX8_order 24 = .ok (.invokevirtual 94, 3) := by decide +kernel
theorem dX8_order_27 : decode cX8_order 27 = .ok (.iload_n 1, 1) := by decide +kernel
theorem dX8_order_28 : decode cX8_order 28 = .ok (.iconst 1, 1) := by decide +kernel
theorem dX8_order_29 : decode cX8_order 29 = .ok (.if_icmp .eq 8, 3) := by decide +kernel
theorem dX8_order_32 : decode cX8_order 32 = .ok (.iload_n 1, 1) := by decide +kernel
theorem dX8_order_33 : decode cX8_order 33 = .ok (.iconst 2, 1) := by decide +kernel
theorem dX8_order_34 : decode cX8_order 34 = .ok (.if_icmp .ne 10, 3) := by decide +kernel
theorem dX8_order_37 : decode cX8_order 37 = .ok (.aload_n 0, 1) := by decide +kernel
theorem dX8_order_38 : decode cX8_order 38 = .ok (.getfield 12, 3) := by decide +kernel
theorem dX8_order_41 : decode cX8_order 41 = .ok (.invokevirtual 97, 3) := by decide +kernel
theorem dX8_order_44 : decode cX8_order 44 = .ok (.iload_n 1, 1) := by decide +kernel
theorem dX8_order_45 : decode cX8_order 45 = .ok (.iconst 3, 1) := by decide +kernel
theorem dX8_order_46 : decode cX8_order 46 = .ok (.if_icmp .ne 10, 3) := by decide +kernel
theorem dX8_order_49 : decode cX8_order 49 = .ok (.aload_n 0, 1) := by decide +kernel
theorem dX8_order_50 : decode cX8_order 50 = .ok (.getfield 12, 3) := by decide +kernel
theorem dX8_order_53 : decode cX8_order 53 = .ok (.invokevirtual 100, 3) := by decide +kernel
theorem dX8_order_56 : decode cX8_order 56 = .ok (.aload_n 0, 1) := by decide +kernel
theorem dX8_order_57 : decode cX8_order 57 = .ok (.getfield 12, 3) := by decide +kernel
theorem dX8_order_60 : decode cX8_order 60 = .ok (.aload_n 0, 1) := by decide +kernel
theorem dX8_order_61 : decode cX8_order 61 = .ok (.getfield 24, 3) := by decide +kernel
theorem dX8_order_64 : decode cX8_order 64 = .ok (.invokevirtual 103, 3) := by decide +kernel
theorem dX8_order_67 : decode cX8_order 67 = .ok (.invokevirtual 107, 3) := by decide +kernel
theorem dX8_order_70 : decode cX8_order 70 = .ok (.istore_n 2, 1) := by decide +kernel
theorem dX8_order_71 : decode cX8_order 71 = .ok (.aload_n 0, 1) := by decide +kernel
theorem dX8_order_72 : decode cX8_order 72 = .ok (.getfield 24, 3) := by decide +kernel
theorem dX8_order_75 : decode cX8_order 75 = .ok (.aload_n 0, 1) := by decide +kernel
theorem dX8_order_76 : decode cX8_order 76 = .ok (.getfield 12, 3) := by decide +kernel
theorem dX8_order_79 : decode cX8_order 79 = .ok (.invokevirtual 65, 3) := by decide +kernel
theorem dX8_order_82 : decode cX8_order 82 = .ok (.iload_n 2, 1) := by decide +kernel
theorem dX8_order_83 : decode cX8_order 83 = .ok (.ireturn, 1) := by decide +kernel
set_option maxRecDepth 20000 in
theorem ggX8_of_X1_hasMark : GoodIn wsX8_of wsX1_hasMark := goodIn_r _ [6, 7, 22, 23, 24, 25, 26] (by decide +kernel) (by decide +kernel)
set_option maxRecDepth 20000 in
theorem gX8_of_X1_hasMark : GoodIn wsX8_of (wsV RX8 80 RX1 yX1_hasMark wsX1_hasMark) := goodIn_app (goodIn_of _ (by decide +kernel)) ggX8_of_X1_hasMark
set_option maxRecDepth 20000 in
theorem ggX8_of_X1_powerAt : GoodIn wsX8_of wsX1_powerAt := goodIn_r _ [11, 12, 22, 23, 24, 25, 26] (by decide +kernel) (by decide +kernel)
set_option maxRecDepth 20000 in
theorem gX8_of_X1_powerAt : GoodIn wsX8_of (wsV RX8 86 RX1 yX1_powerAt wsX1_powerAt) := goodIn_app (goodIn_of _ (by decide +kernel)) ggX8_of_X1_powerAt
theorem dX8_of_0 : decode cX8_of 0 = .ok (.aload_n 0, 1) := by decide +kernel
theorem dX8_of_1 : decode cX8_of 1 = .ok (.getfield 12, 3) := by decide +kernel
theorem dX8_of_4 : decode cX8_of 4 = .ok (.iload_n 1, 1) := by decide +kernel
theorem dX8_of_5 : decode cX8_of 5 = .ok (.invokevirtual 80, 3) := by decide +kernel
theorem dX8_of_8 : decode cX8_of 8 = .ok (.ifCond .eq 14, 3) := by decide +kernel
theorem dX8_of_11 : decode cX8_of 11 = .ok (.aload_n 0, 1) := by decide +kernel
theorem dX8_of_12 : decode cX8_of 12 = .ok (.getfield 12, 3) := by decide +kernel
theorem dX8_of_15 : decode cX8_of 15 = .ok (.iload_n 1, 1) := by decide +kernel
theorem dX8_of_16 : decode cX8_of 16 = .ok (.invokevirtual 86, 3) := by decide +kernel
theorem dX8_of_19 : decode cX8_of 19 = .ok (.goto 4, 3) := by decide +kernel
theorem dX8_of_22 : decode cX8_of 22 = .ok (.iconst (-1), 1) := by decide +kernel
theorem dX8_of_23 : decode cX8_of 23 = .ok (.ireturn, 1) := by decide +kernel
set_option maxRecDepth 20000 in
theorem ggX8_number_X8_isPart : GoodIn wsX8_number wsX8_isPart := goodIn_r _ [7] (by decide +kernel) (by decide +kernel)
set_option maxRecDepth 20000 in
theorem gX8_number_X8_isPart : GoodIn wsX8_number (va_wsS RX8 111 yX8_isPart wsX8_isPart) := goodIn_app (goodIn_of _ (by decide +kernel)) ggX8_number_X8_isPart
set_option maxRecDepth 20000 in
theorem ggX8_number_X8_aboveWith : GoodIn wsX8_number wsX8_aboveWith := goodIn_r _ [11, 12, 13, 14, 15, 6, 16, 2, 17, 3, 18, 19, 20, 21, 22, 23, 24, 25, 26, 27, 28, 29, 30, 31, 32, 33, 34, 35, 36, 37, 38, 39, 40, 41, 42, 43, 44, 45, 46, 47, 48, 49, 50, 51, 52, 53, 54, 55, 56, 57, 58, 59, 60, 61, 62, 63, 64, 65, 66, 67, 68, 69, 70, 71, 72, 73, 74, 75, 76, 77, 78, 79, 80, 81, 82, 83, 99, 100, 101, 102, 103, 104, 105, 106, 107, 108, 109, 110, 111, 112, 113, 114, 115, 116, 117, 118, 119] (by decide +kernel) (by decide +kernel)
set_option maxRecDepth 20000 in
theorem gX8_number_X8_aboveWith : GoodIn wsX8_number (wsV RX8 116 RX8 yX8_aboveWith wsX8_aboveWith) := goodIn_app (goodIn_of _ (by decide +kernel)) ggX8_number_X8_aboveWith
set_option maxRecDepth 20000 in
theorem ggX8_number_X3_lineOf : GoodIn wsX8_number wsX3_lineOf := goodIn_r _ [86, 87, 88] (by decide +kernel) (by decide +kernel)
set_option maxRecDepth 20000 in
theorem gX8_number_X3_lineOf : GoodIn wsX8_number (va_wsS RX8 120 yX3_lineOf wsX3_lineOf) := goodIn_app (goodIn_of _ (by decide +kernel)) ggX8_number_X3_lineOf
set_option maxRecDepth 20000 in
theorem ggX8_number_X8_partOf : GoodIn wsX8_number wsX8_partOf := goodIn_r _ [91, 92, 93, 94, 95, 1, 96, 97, 6, 98] (by decide +kernel) (by decide +kernel)
set_option maxRecDepth 20000 in
theorem gX8_number_X8_partOf : GoodIn wsX8_number (va_wsS RX8 124 yX8_partOf wsX8_partOf) := goodIn_app (goodIn_of _ (by decide +kernel)) ggX8_number_X8_partOf
theorem dX8_number_0 : decode cX8_number 0 = .ok (.iload_n 1, 1) := by decide +kernel
theorem dX8_number_1 : decode cX8_number 1 = .ok (.invokestatic 111, 3) := by decide +kernel
theorem dX8_number_4 : decode cX8_number 4 = .ok (.ifCond .ne 7, 3) := by decide +kernel
theorem dX8_number_7 : decode cX8_number 7 = .ok (.ldc2_w 114, 3) := by decide +kernel
theorem dX8_number_10 : decode cX8_number 10 = .ok (.lreturn, 1) := by decide +kernel
theorem dX8_number_11 : decode cX8_number 11 = .ok (.aload_n 0, 1) := by decide +kernel
theorem dX8_number_12 : decode cX8_number 12 = .ok (.iconst (-1), 1) := by decide +kernel
theorem dX8_number_13 : decode cX8_number 13 = .ok (.iconst (-1), 1) := by decide +kernel
theorem dX8_number_14 : decode cX8_number 14 = .ok (.iconst (-1), 1) := by decide +kernel
theorem dX8_number_15 : decode cX8_number 15 = .ok (.invokevirtual 116, 3) := by decide +kernel
theorem dX8_number_18 : decode cX8_number 18 = .ok (.aload_n 0, 1) := by decide +kernel
theorem dX8_number_19 : decode cX8_number 19 = .ok (.getfield 12, 3) := by decide +kernel
theorem dX8_number_22 : decode cX8_number 22 = .ok (.getfield 61, 3) := by decide +kernel
theorem dX8_number_25 : decode cX8_number 25 = .ok (.invokestatic 120, 3) := by decide +kernel
theorem dX8_number_28 : decode cX8_number 28 = .ok (.iload_n 1, 1) := by decide +kernel
theorem dX8_number_29 : decode cX8_number 29 = .ok (.invokestatic 124, 3) := by decide +kernel
theorem dX8_number_32 : decode cX8_number 32 = .ok (.lreturn, 1) := by decide +kernel
set_option maxRecDepth 20000 in
theorem ggX8_rule_X8_keyWith : GoodIn wsX8_rule wsX8_keyWith := goodIn_r _ [5, 6, 7, 8, 9, 10, 11, 12, 13, 14, 15, 16, 17, 18, 19, 20, 21, 22, 23, 24, 25, 26, 27, 28, 29, 30, 31, 50, 51, 52, 53, 54, 55, 56, 57, 58, 59, 60, 61, 62, 63, 64, 65, 66, 67, 68, 69, 70] (by decide +kernel) (by decide +kernel)
set_option maxRecDepth 20000 in
theorem gX8_rule_X8_keyWith : GoodIn wsX8_rule (wsV RX8 128 RX8 yX8_keyWith wsX8_keyWith) := goodIn_app (goodIn_of _ (by decide +kernel)) ggX8_rule_X8_keyWith
set_option maxRecDepth 20000 in
theorem ggX8_rule_X3_ruleOf : GoodIn wsX8_rule wsX3_ruleOf := goodIn_r _ [34, 35, 36, 13, 37, 38, 39, 40, 41, 42, 43, 44, 45, 46, 47, 48, 49] (by decide +kernel) (by decide +kernel)
set_option maxRecDepth 20000 in
theorem gX8_rule_X3_ruleOf : GoodIn wsX8_rule (va_wsS RX8 131 yX3_ruleOf wsX3_ruleOf) := goodIn_app (goodIn_of _ (by decide +kernel)) ggX8_rule_X3_ruleOf
theorem dX8_rule_0 : decode cX8_rule 0 = .ok (.aload_n 0, 1) := by decide +kernel
theorem dX8_rule_1 : decode cX8_rule 1 = .ok (.iconst (-1), 1) := by decide +kernel
theorem dX8_rule_2 : decode cX8_rule 2 = .ok (.iconst (-1), 1) := by decide +kernel
theorem dX8_rule_3 : decode cX8_rule 3 = .ok (.iconst (-1), 1) := by decide +kernel
theorem dX8_rule_4 : decode cX8_rule 4 = .ok (.invokevirtual 128, 3) := by decide +kernel
theorem dX8_rule_7 : decode cX8_rule 7 = .ok (.invokestatic 131, 3) := by decide +kernel
theorem dX8_rule_10 : decode cX8_rule 10 = .ok (.ireturn, 1) := by decide +kernel
set_option maxRecDepth 20000 in
theorem ggX8_met_X8_keyWith : GoodIn wsX8_met wsX8_keyWith := goodIn_r _ [6, 1, 7, 8, 9, 10, 11, 12, 13, 14, 15, 16, 17, 18, 19, 20, 21, 22, 23, 24, 25, 26, 27, 28, 29, 30, 31, 82, 83, 84, 85, 86, 87, 88, 89, 90, 91, 92, 93, 94, 95, 96, 97, 98, 99, 100, 101, 102] (by decide +kernel) (by decide +kernel)
set_option maxRecDepth 20000 in
theorem gX8_met_X8_keyWith : GoodIn wsX8_met (wsV RX8 128 RX8 yX8_keyWith wsX8_keyWith) := goodIn_app (goodIn_of _ (by decide +kernel)) ggX8_met_X8_keyWith
set_option maxRecDepth 20000 in
theorem ggX8_met_X3_countMet : GoodIn wsX8_met wsX3_countMet := goodIn_r _ [35, 36, 37, 38, 39, 13, 40, 41, 42, 43, 44, 45, 46, 47, 48, 49, 50, 51, 52, 53, 54, 55, 56, 57, 58, 59, 60, 61, 62, 63, 64, 65, 66, 67, 68, 69, 70, 71, 72, 73, 74, 75, 76, 77, 78, 79, 80, 81, 96, 97, 98, 99, 100, 101, 102] (by decide +kernel) (by decide +kernel)
set_option maxRecDepth 20000 in
theorem gX8_met_X3_countMet : GoodIn wsX8_met (wsV RX8 135 RX3 yX3_countMet wsX3_countMet) := goodIn_app (goodIn_of _ (by decide +kernel)) ggX8_met_X3_countMet
theorem dX8_met_0 : decode cX8_met 0 = .ok (.aload_n 0, 1) := by decide +kernel
theorem dX8_met_1 : decode cX8_met 1 = .ok (.getfield 31, 3) := by decide +kernel
theorem dX8_met_4 : decode cX8_met 4 = .ok (.aload_n 0, 1) := by decide +kernel
theorem dX8_met_5 : decode cX8_met 5 = .ok (.iconst (-1), 1) := by decide +kernel
theorem dX8_met_6 : decode cX8_met 6 = .ok (.iconst (-1), 1) := by decide +kernel
theorem dX8_met_7 : decode cX8_met 7 = .ok (.iconst (-1), 1) := by decide +kernel
theorem dX8_met_8 : decode cX8_met 8 = .ok (.invokevirtual 128, 3) := by decide +kernel
theorem dX8_met_11 : decode cX8_met 11 = .ok (.invokevirtual 135, 3) := by decide +kernel
theorem dX8_met_14 : decode cX8_met 14 = .ok (.ireturn, 1) := by decide +kernel
set_option maxRecDepth 20000 in
theorem ggX8_kappa_X8_isKappa : GoodIn wsX8_kappa wsX8_isKappa := goodIn_r _ [7] (by decide +kernel) (by decide +kernel)
set_option maxRecDepth 20000 in
theorem gX8_kappa_X8_isKappa : GoodIn wsX8_kappa (va_wsS RX8 138 yX8_isKappa wsX8_isKappa) := goodIn_app (goodIn_of _ (by decide +kernel)) ggX8_kappa_X8_isKappa
set_option maxRecDepth 20000 in
theorem ggX8_kappa_X8_isPart : GoodIn wsX8_kappa wsX8_isPart := goodIn_r _ [10] (by decide +kernel) (by decide +kernel)
set_option maxRecDepth 20000 in
theorem gX8_kappa_X8_isPart : GoodIn wsX8_kappa (va_wsS RX8 111 yX8_isPart wsX8_isPart) := goodIn_app (goodIn_of _ (by decide +kernel)) ggX8_kappa_X8_isPart
set_option maxRecDepth 20000 in
theorem ggX8_kappa_X8_kappaOfThree : GoodIn wsX8_kappa wsX8_kappaOfThree := goodIn_r _ [14, 15, 16, 17, 18, 6, 19, 20, 21, 22, 23, 24, 2, 25, 3, 26, 27, 28, 29, 30, 31, 32, 33, 34, 35, 36, 37, 38, 39, 40, 41, 42, 43, 44, 45, 46, 47, 48, 49, 50, 51, 52, 53, 54, 55, 56, 57, 58, 59, 60, 61, 62, 63, 64, 65, 66, 67, 68, 69, 70, 71, 72, 73, 74, 75, 76, 77, 78, 79, 80, 81, 82, 83, 84, 85, 86, 87, 88, 89, 90, 91, 92, 93, 94, 95, 111, 112, 113, 114, 115, 116, 117, 118, 119, 120, 121, 122, 123, 124, 125, 126, 127, 128, 129, 130, 131] (by decide +kernel) (by decide +kernel)
set_option maxRecDepth 20000 in
theorem gX8_kappa_X8_kappaOfThree : GoodIn wsX8_kappa (wsV RX8 141 RX8 yX8_kappaOfThree wsX8_kappaOfThree) := goodIn_app (goodIn_of _ (by decide +kernel)) ggX8_kappa_X8_kappaOfThree
set_option maxRecDepth 20000 in
theorem ggX8_kappa_X8_kappaOfTwo : GoodIn wsX8_kappa wsX8_kappaOfTwo := goodIn_r _ [95, 16, 17, 18, 6, 19, 20, 21, 22, 23, 24, 2, 25, 3, 26, 27, 28, 29, 30, 31, 32, 33, 34, 35, 36, 37, 38, 39, 40, 41, 42, 43, 44, 45, 46, 47, 48, 49, 50, 51, 52, 53, 54, 55, 56, 57, 58, 59, 60, 61, 62, 63, 64, 65, 66, 67, 68, 69, 70, 71, 72, 73, 74, 75, 76, 77, 78, 79, 80, 81, 82, 83, 84, 85, 86, 87, 88, 89, 90, 91, 111, 112, 113, 114, 115, 116, 117, 118, 119, 120, 121, 122, 123, 124, 125, 126, 127, 128, 129, 130, 131] (by decide +kernel) (by decide +kernel)
set_option maxRecDepth 20000 in
theorem gX8_kappa_X8_kappaOfTwo : GoodIn wsX8_kappa (wsV RX8 144 RX8 yX8_kappaOfTwo wsX8_kappaOfTwo) := goodIn_app (goodIn_of _ (by decide +kernel)) ggX8_kappa_X8_kappaOfTwo
set_option maxRecDepth 20000 in
theorem ggX8_kappa_X8_aboveWith : GoodIn wsX8_kappa wsX8_aboveWith := goodIn_r _ [19, 20, 21, 22, 23, 6, 24, 2, 25, 3, 26, 27, 28, 29, 30, 31, 32, 33, 34, 35, 36, 37, 38, 39, 40, 41, 42, 43, 44, 45, 46, 47, 48, 49, 50, 51, 52, 53, 54, 55, 56, 57, 58, 59, 60, 61, 62, 63, 64, 65, 66, 67, 68, 69, 70, 71, 72, 73, 74, 75, 76, 77, 78, 79, 80, 81, 82, 83, 84, 85, 86, 87, 88, 89, 90, 91, 111, 112, 113, 114, 115, 116, 117, 118, 119, 120, 121, 122, 123, 124, 125, 126, 127, 128, 129, 130, 131] (by decide +kernel) (by decide +kernel)
set_option maxRecDepth 20000 in
theorem gX8_kappa_X8_aboveWith : GoodIn wsX8_kappa (wsV RX8 116 RX8 yX8_aboveWith wsX8_aboveWith) := goodIn_app (goodIn_of _ (by decide +kernel)) ggX8_kappa_X8_aboveWith
set_option maxRecDepth 20000 in
theorem ggX8_kappa_X3_lineOf : GoodIn wsX8_kappa wsX3_lineOf := goodIn_r _ [98, 99, 100] (by decide +kernel) (by decide +kernel)
set_option maxRecDepth 20000 in
theorem gX8_kappa_X3_lineOf : GoodIn wsX8_kappa (va_wsS RX8 120 yX3_lineOf wsX3_lineOf) := goodIn_app (goodIn_of _ (by decide +kernel)) ggX8_kappa_X3_lineOf
set_option maxRecDepth 20000 in
theorem ggX8_kappa_X8_partOf : GoodIn wsX8_kappa wsX8_partOf := goodIn_r _ [103, 104, 105, 106, 107, 1, 108, 109, 6, 110] (by decide +kernel) (by decide +kernel)
set_option maxRecDepth 20000 in
theorem gX8_kappa_X8_partOf : GoodIn wsX8_kappa (va_wsS RX8 124 yX8_partOf wsX8_partOf) := goodIn_app (goodIn_of _ (by decide +kernel)) ggX8_kappa_X8_partOf
theorem dX8_kappa_0 : decode cX8_kappa 0 = .ok (.iload_n 1, 1) := by decide +kernel
theorem dX8_kappa_1 : decode cX8_kappa 1 = .ok (.invokestatic 138, 3) := by decide +kernel
theorem dX8_kappa_4 : decode cX8_kappa 4 = .ok (.ifCond .eq 25, 3) := by decide +kernel
theorem dX8_kappa_7 : decode cX8_kappa 7 = .ok (.iload_n 2, 1) := by decide +kernel
theorem dX8_kappa_8 : decode cX8_kappa 8 = .ok (.invokestatic 138, 3) := by decide +kernel
theorem dX8_kappa_11 : decode cX8_kappa 11 = .ok (.ifCond .eq 18, 3) := by decide +kernel
theorem dX8_kappa_14 : decode cX8_kappa 14 = .ok (.iload_n 3, 1) := by decide +kernel
theorem dX8_kappa_15 : decode cX8_kappa 15 = .ok (.invokestatic 138, 3) := by decide +kernel
theorem dX8_kappa_18 : decode cX8_kappa 18 = .ok (.ifCond .eq 11, 3) := by decide +kernel
theorem dX8_kappa_21 : decode cX8_kappa 21 = .ok (.iload 4, 2) := by decide +kernel
theorem dX8_kappa_23 : decode cX8_kappa 23 = .ok (.invokestatic 111, 3) := by decide +kernel
theorem dX8_kappa_26 : decode cX8_kappa 26 = .ok (.ifCond .ne 7, 3) := by decide +kernel
theorem dX8_kappa_29 : decode cX8_kappa 29 = .ok (.ldc2_w 114, 3) := by decide +kernel
theorem dX8_kappa_32 : decode cX8_kappa 32 = .ok (.lreturn, 1) := by decide +kernel
theorem dX8_kappa_33 : decode cX8_kappa 33 = .ok (.iload_n 1, 1) := by decide +kernel
theorem dX8_kappa_34 : decode cX8_kappa 34 = .ok (.iconst (-1), 1) := by decide +kernel
theorem dX8_kappa_35 : decode cX8_kappa 35 = .ok (.if_icmp .ne 8, 3) := by decide +kernel
theorem dX8_kappa_38 : decode cX8_kappa 38 = .ok (.iload_n 2, 1) := by decide +kernel
theorem dX8_kappa_39 : decode cX8_kappa 39 = .ok (.iconst (-1), 1) := by decide +kernel
theorem dX8_kappa_40 : decode cX8_kappa 40 = .ok (.if_icmp .ne 13, 3) := by decide +kernel
theorem dX8_kappa_43 : decode cX8_kappa 43 = .ok (.iload_n 2, 1) := by decide +kernel
theorem dX8_kappa_44 : decode cX8_kappa 44 = .ok (.iconst (-1), 1) := by decide +kernel
theorem dX8_kappa_45 : decode cX8_kappa 45 = .ok (.if_icmp .ne 12, 3) := by decide +kernel
theorem dX8_kappa_48 : decode cX8_kappa 48 = .ok (.iload_n 3, 1) := by decide +kernel
theorem dX8_kappa_49 : decode cX8_kappa 49 = .ok (.iconst (-1), 1) := by decide +kernel
theorem dX8_kappa_50 : decode cX8_kappa 50 = .ok (.if_icmp .eq 7, 3) := by decide +kernel
theorem dX8_kappa_53 : decode cX8_kappa 53 = .ok (.ldc2_w 114, 3) := by decide +kernel
theorem dX8_kappa_56 : decode cX8_kappa 56 = .ok (.lreturn, 1) := by decide +kernel
theorem dX8_kappa_57 : decode cX8_kappa 57 = .ok (.iload_n 3, 1) := by decide +kernel
theorem dX8_kappa_58 : decode cX8_kappa 58 = .ok (.iconst (-1), 1) := by decide +kernel
theorem dX8_kappa_59 : decode cX8_kappa 59 = .ok (.if_icmp .eq 15, 3) := by decide +kernel
theorem dX8_kappa_62 : decode cX8_kappa 62 = .ok (.aload_n 0, 1) := by decide +kernel
theorem dX8_kappa_63 : decode cX8_kappa 63 = .ok (.iload_n 1, 1) := by decide +kernel
theorem dX8_kappa_64 : decode cX8_kappa 64 = .ok (.iload_n 2, 1) := by decide +kernel
theorem dX8_kappa_65 : decode cX8_kappa 65 = .ok (.iload_n 3, 1) := by decide +kernel
theorem dX8_kappa_66 : decode cX8_kappa 66 = .ok (.invokevirtual 141, 3) := by decide +kernel
theorem dX8_kappa_69 : decode cX8_kappa 69 = .ok (.lstore 5, 2) := by decide +kernel
theorem dX8_kappa_71 : decode cX8_kappa 71 = .ok (.goto 28, 3) := by decide +kernel
theorem dX8_kappa_74 : decode cX8_kappa 74 = .ok (.iload_n 2, 1) := by decide +kernel
theorem dX8_kappa_75 : decode cX8_kappa 75 = .ok (.iconst (-1), 1) := by decide +kernel
theorem dX8_kappa_76 : decode cX8_kappa 76 = .ok (.if_icmp .eq 14, 3) := by decide +kernel
theorem dX8_kappa_79 : decode cX8_kappa 79 = .ok (.aload_n 0, 1) := by decide +kernel
theorem dX8_kappa_80 : decode cX8_kappa 80 = .ok (.iload_n 1, 1) := by decide +kernel
theorem dX8_kappa_81 : decode cX8_kappa 81 = .ok (.iload_n 2, 1) := by decide +kernel
theorem dX8_kappa_82 : decode cX8_kappa 82 = .ok (.invokevirtual 144, 3) := by decide +kernel
theorem dX8_kappa_85 : decode cX8_kappa 85 = .ok (.lstore 5, 2) := by decide +kernel
theorem dX8_kappa_87 : decode cX8_kappa 87 = .ok (.goto 12, 3) := by decide +kernel
theorem dX8_kappa_90 : decode cX8_kappa 90 = .ok (.aload_n 0, 1) := by decide +kernel
theorem dX8_kappa_91 : decode cX8_kappa 91 = .ok (.iload_n 1, 1) := by decide +kernel
theorem dX8_kappa_92 : decode cX8_kappa 92 = .ok (.iconst (-1), 1) := by decide +kernel
theorem dX8_kappa_93 : decode cX8_kappa 93 = .ok (.iconst (-1), 1) := by decide +kernel
theorem dX8_kappa_94 : decode cX8_kappa 94 = .ok (.invokevirtual 116, 3) := by decide +kernel
theorem dX8_kappa_97 : decode cX8_kappa 97 = .ok (.lstore 5, 2) := by decide +kernel
theorem dX8_kappa_99 : decode cX8_kappa 99 = .ok (.lload 5, 2) := by decide +kernel
theorem dX8_kappa_101 : decode cX8_kappa 101 = .ok (.aload_n 0, 1) := by decide +kernel
theorem dX8_kappa_102 : decode cX8_kappa 102 = .ok (.getfield 12, 3) := by decide +kernel
theorem dX8_kappa_105 : decode cX8_kappa 105 = .ok (.getfield 61, 3) := by decide +kernel
theorem dX8_kappa_108 : decode cX8_kappa 108 = .ok (.invokestatic 120, 3) := by decide +kernel
theorem dX8_kappa_111 : decode cX8_kappa 111 = .ok (.iload 4, 2) := by decide +kernel
theorem dX8_kappa_113 : decode cX8_kappa 113 = .ok (.invokestatic 124, 3) := by decide +kernel
theorem dX8_kappa_116 : decode cX8_kappa 116 = .ok (.lreturn, 1) := by decide +kernel
set_option maxRecDepth 20000 in
theorem ggX8_leaves_X6_isLeafCount : GoodIn wsX8_leaves wsX6_isLeafCount := goodIn_r _ [8] (by decide +kernel) (by decide +kernel)
set_option maxRecDepth 20000 in
theorem gX8_leaves_X6_isLeafCount : GoodIn wsX8_leaves (va_wsS RX8 148 yX6_isLeafCount wsX6_isLeafCount) := goodIn_app (goodIn_of _ (by decide +kernel)) ggX8_leaves_X6_isLeafCount
set_option maxRecDepth 20000 in
theorem ggX8_leaves_X0_settle : GoodIn wsX8_leaves wsX0_settle := goodIn_r _ [13, 14, 15, 16, 17, 18, 12, 19, 20, 21, 22, 23, 24, 25, 26, 27, 28, 29, 30, 31, 32, 33, 34, 35, 36, 37, 38, 39, 40, 41, 42, 43, 44, 45, 46, 61, 62, 63, 56, 57, 58, 59, 60] (by decide +kernel) (by decide +kernel)
set_option maxRecDepth 20000 in
theorem gX8_leaves_X0_settle : GoodIn wsX8_leaves (wsV RX8 65 RX0 yX0_settle wsX0_settle) := goodIn_app (goodIn_of _ (by decide +kernel)) ggX8_leaves_X0_settle
theorem dX8_leaves_0 : decode cX8_leaves 0 = .ok (.iload_n 1, 1) := by decide +kernel
theorem dX8_leaves_1 : decode cX8_leaves 1 = .ok (.invokestatic 148, 3) := by decide +kernel
theorem dX8_leaves_4 : decode cX8_leaves 4 = .ok (.ifCond .ne 5, 3) := by decide +kernel
theorem dX8_leaves_7 : decode cX8_leaves 7 = .ok (.iconst (-1), 1) := by decide +kernel
theorem dX8_leaves_8 : decode cX8_leaves 8 = .ok (.ireturn, 1) := by decide +kernel
theorem dX8_leaves_9 : decode cX8_leaves 9 = .ok (.aload_n 0, 1) := by decide +kernel
theorem dX8_leaves_10 : decode cX8_leaves 10 = .ok (.getfield 12, 3) := by decide +kernel
theorem dX8_leaves_13 : decode cX8_leaves 13 = .ok (.getfield 153, 3) := by decide +kernel
theorem dX8_leaves_16 : decode cX8_leaves 16 = .ok (.istore_n 2, 1) := by decide +kernel
theorem dX8_leaves_17 : decode cX8_leaves 17 = .ok (.aload_n 0, 1) := by decide +kernel
theorem dX8_leaves_18 : decode cX8_leaves 18 = .ok (.getfield 12, 3) := by decide +kernel
theorem dX8_leaves_21 : decode cX8_leaves 21 = .ok (.iload_n 1, 1) := by decide +kernel
theorem dX8_leaves_22 : decode cX8_leaves 22 = .ok (.putfield 153, 3) := by decide +kernel
theorem dX8_leaves_25 : decode cX8_leaves 25 = .ok (.aload_n 0, 1) := by decide +kernel
theorem dX8_leaves_26 : decode cX8_leaves 26 = .ok (.getfield 12, 3) := by decide +kernel
theorem dX8_leaves_29 : decode cX8_leaves 29 = .ok (.lconst 0, 1) := by decide +kernel
theorem dX8_leaves_30 : decode cX8_leaves 30 = .ok (.putfield 156, 3) := by decide +kernel
theorem dX8_leaves_33 : decode cX8_leaves 33 = .ok (.aload_n 0, 1) := by decide +kernel
theorem dX8_leaves_34 : decode cX8_leaves 34 = .ok (.getfield 24, 3) := by decide +kernel
theorem dX8_leaves_37 : decode cX8_leaves 37 = .ok (.aload_n 0, 1) := by decide +kernel
theorem dX8_leaves_38 : decode cX8_leaves 38 = .ok (.getfield 12, 3) := by decide +kernel
theorem dX8_leaves_41 : decode cX8_leaves 41 = .ok (.invokevirtual 65, 3) := by decide +kernel
theorem dX8_leaves_44 : decode cX8_leaves 44 = .ok (.iload_n 2, 1) := by decide +kernel
theorem dX8_leaves_45 : decode cX8_leaves 45 = .ok (.ireturn, 1) := by decide +kernel
set_option maxRecDepth 20000 in
theorem ggX8_split_X6_isSplit : GoodIn wsX8_split wsX6_isSplit := goodIn_r _ [8, 9, 10, 7, 11, 12, 13, 14, 15, 16, 17, 18] (by decide +kernel) (by decide +kernel)
set_option maxRecDepth 20000 in
theorem gX8_split_X6_isSplit : GoodIn wsX8_split (va_wsS RX8 160 yX6_isSplit wsX6_isSplit) := goodIn_app (goodIn_of _ (by decide +kernel)) ggX8_split_X6_isSplit
set_option maxRecDepth 20000 in
theorem ggX8_split_X6_fits : GoodIn wsX8_split wsX6_fits := goodIn_r _ [21, 22, 23, 7, 24, 25, 26, 27, 28, 29, 30, 31, 32, 33, 34, 35, 36, 37, 38, 39, 40] (by decide +kernel) (by decide +kernel)
set_option maxRecDepth 20000 in
theorem gX8_split_X6_fits : GoodIn wsX8_split (va_wsS RX8 164 yX6_fits wsX6_fits) := goodIn_app (goodIn_of _ (by decide +kernel)) ggX8_split_X6_fits
set_option maxRecDepth 20000 in
theorem ggX8_split_X6_with : GoodIn wsX8_split wsX6_with := goodIn_r _ [43] (by decide +kernel) (by decide +kernel)
set_option maxRecDepth 20000 in
theorem gX8_split_X6_with : GoodIn wsX8_split (va_wsS RX8 168 yX6_with wsX6_with) := goodIn_app (goodIn_of _ (by decide +kernel)) ggX8_split_X6_with
set_option maxRecDepth 20000 in
theorem ggX8_split_X0_settle : GoodIn wsX8_split wsX0_settle := goodIn_r _ [48, 49, 50, 51, 52, 53, 47, 54, 55, 56, 57, 58, 59, 60, 61, 62, 63, 64, 65, 66, 67, 68, 69, 70, 71, 72, 73, 74, 75, 76, 77, 78, 79, 80, 81, 97, 98, 99, 92, 93, 94, 95, 96] (by decide +kernel) (by decide +kernel)
set_option maxRecDepth 20000 in
theorem gX8_split_X0_settle : GoodIn wsX8_split (wsV RX8 65 RX0 yX0_settle wsX0_settle) := goodIn_app (goodIn_of _ (by decide +kernel)) ggX8_split_X0_settle
set_option maxRecDepth 20000 in
theorem ggX8_split_X6_sizeOf : GoodIn wsX8_split wsX6_sizeOf := goodIn_r _ [24, 25, 26, 27, 28, 29, 30, 31] (by decide +kernel) (by decide +kernel)
set_option maxRecDepth 20000 in
theorem gX8_split_X6_sizeOf : GoodIn wsX8_split (va_wsS RX8 172 yX6_sizeOf wsX6_sizeOf) := goodIn_app (goodIn_of _ (by decide +kernel)) ggX8_split_X6_sizeOf
theorem dX8_split_0 : decode cX8_split 0 = .ok (.iload_n 1, 1) := by decide +kernel
theorem dX8_split_1 : decode cX8_split 1 = .ok (.aload_n 0, 1) := by decide +kernel
theorem dX8_split_2 : decode cX8_split 2 = .ok (.getfield 12, 3) := by decide +kernel
theorem dX8_split_5 : decode cX8_split 5 = .ok (.getfield 153, 3) := by decide +kernel
theorem dX8_split_8 : decode cX8_split 8 = .ok (.invokestatic 160, 3) := by decide +kernel
theorem dX8_split_11 : decode cX8_split 11 = .ok (.ifCond .ne 5, 3) := by decide +kernel
theorem dX8_split_14 : decode cX8_split 14 = .ok (.iconst (-1), 1) := by decide +kernel
theorem dX8_split_15 : decode cX8_split 15 = .ok (.ireturn, 1) := by decide +kernel
theorem dX8_split_16 : decode cX8_split 16 = .ok (.aload_n 0, 1) := by decide +kernel
theorem dX8_split_17 : decode cX8_split 17 = .ok (.getfield 12, 3) := by decide +kernel
theorem dX8_split_20 : decode cX8_split 20 = .ok (.getfield 156, 3) := by decide +kernel
theorem dX8_split_23 : decode cX8_split 23 = .ok (.iload_n 1, 1) := by decide +kernel
theorem dX8_split_24 : decode cX8_split 24 = .ok (.invokestatic 164, 3) := by decide +kernel
theorem dX8_split_27 : decode cX8_split 27 = .ok (.ifCond .ne 6, 3) := by decide +kernel
theorem dX8_split_30 : decode cX8_split 30 = .ok (.bipush (-5), 2) := by decide +kernel
theorem dX8_split_32 : decode cX8_split 32 = .ok (.ireturn, 1) := by decide +kernel
theorem dX8_split_33 : decode cX8_split 33 = .ok (.aload_n 0, 1) := by decide +kernel
theorem dX8_split_34 : decode cX8_split 34 = .ok (.getfield 12, 3) := by decide +kernel
theorem dX8_split_37 : decode cX8_split 37 = .ok (.aload_n 0, 1) := by decide +kernel
theorem dX8_split_38 : decode cX8_split 38 = .ok (.getfield 12, 3) := by decide +kernel
theorem dX8_split_41 : decode cX8_split 41 = .ok (.getfield 156, 3) := by decide +kernel
theorem dX8_split_44 : decode cX8_split 44 = .ok (.iload_n 1, 1) := by decide +kernel
theorem dX8_split_45 : decode cX8_split 45 = .ok (.invokestatic 168, 3) := by decide +kernel
theorem dX8_split_48 : decode cX8_split 48 = .ok (.putfield 156, 3) := by decide +kernel
theorem dX8_split_51 : decode cX8_split 51 = .ok (.aload_n 0, 1) := by decide +kernel
theorem dX8_split_52 : decode cX8_split 52 = .ok (.getfield 24, 3) := by decide +kernel
theorem dX8_split_55 : decode cX8_split 55 = .ok (.aload_n 0, 1) := by decide +kernel
theorem dX8_split_56 : decode cX8_split 56 = .ok (.getfield 12, 3) := by decide +kernel
theorem dX8_split_59 : decode cX8_split 59 = .ok (.invokevirtual 65, 3) := by decide +kernel
theorem dX8_split_62 : decode cX8_split 62 = .ok (.aload_n 0, 1) := by decide +kernel
theorem dX8_split_63 : decode cX8_split 63 = .ok (.getfield 12, 3) := by decide +kernel
theorem dX8_split_66 : decode cX8_split 66 = .ok (.getfield 156, 3) := by decide +kernel
theorem dX8_split_69 : decode cX8_split 69 = .ok (.invokestatic 172, 3) := by decide +kernel
theorem dX8_split_72 : decode cX8_split 72 = .ok (.ireturn, 1) := by decide +kernel
set_option maxRecDepth 20000 in
theorem ggX8_join_X6_isSplit : GoodIn wsX8_join wsX6_isSplit := goodIn_r _ [8, 9, 10, 7, 11, 12, 13, 14, 15, 16, 17, 18] (by decide +kernel) (by decide +kernel)
set_option maxRecDepth 20000 in
theorem gX8_join_X6_isSplit : GoodIn wsX8_join (va_wsS RX8 160 yX6_isSplit wsX6_isSplit) := goodIn_app (goodIn_of _ (by decide +kernel)) ggX8_join_X6_isSplit
set_option maxRecDepth 20000 in
theorem ggX8_join_X6_has : GoodIn wsX8_join wsX6_has := goodIn_r _ [21] (by decide +kernel) (by decide +kernel)
set_option maxRecDepth 20000 in
theorem gX8_join_X6_has : GoodIn wsX8_join (va_wsS RX8 175 yX6_has wsX6_has) := goodIn_app (goodIn_of _ (by decide +kernel)) ggX8_join_X6_has
set_option maxRecDepth 20000 in
theorem ggX8_join_X6_without : GoodIn wsX8_join wsX6_without := goodIn_r _ [24, 25] (by decide +kernel) (by decide +kernel)
set_option maxRecDepth 20000 in
theorem gX8_join_X6_without : GoodIn wsX8_join (va_wsS RX8 178 yX6_without wsX6_without) := goodIn_app (goodIn_of _ (by decide +kernel)) ggX8_join_X6_without
set_option maxRecDepth 20000 in
theorem ggX8_join_X0_settle : GoodIn wsX8_join wsX0_settle := goodIn_r _ [30, 31, 32, 33, 34, 35, 29, 36, 37, 38, 39, 40, 41, 42, 43, 44, 45, 46, 47, 48, 49, 50, 51, 52, 53, 54, 55, 56, 57, 58, 59, 60, 61, 62, 63, 88, 89, 90, 83, 84, 85, 86, 87] (by decide +kernel) (by decide +kernel)
set_option maxRecDepth 20000 in
theorem gX8_join_X0_settle : GoodIn wsX8_join (wsV RX8 65 RX0 yX0_settle wsX0_settle) := goodIn_app (goodIn_of _ (by decide +kernel)) ggX8_join_X0_settle
set_option maxRecDepth 20000 in
theorem ggX8_join_X6_sizeOf : GoodIn wsX8_join wsX6_sizeOf := goodIn_r _ [66, 67, 68, 69, 70, 71, 72, 73] (by decide +kernel) (by decide +kernel)
set_option maxRecDepth 20000 in
theorem gX8_join_X6_sizeOf : GoodIn wsX8_join (va_wsS RX8 172 yX6_sizeOf wsX6_sizeOf) := goodIn_app (goodIn_of _ (by decide +kernel)) ggX8_join_X6_sizeOf
theorem dX8_join_0 : decode cX8_join 0 = .ok (.iload_n 1, 1) := by decide +kernel
theorem dX8_join_1 : decode cX8_join 1 = .ok (.aload_n 0, 1) := by decide +kernel
theorem dX8_join_2 : decode cX8_join 2 = .ok (.getfield 12, 3) := by decide +kernel
theorem dX8_join_5 : decode cX8_join 5 = .ok (.getfield 153, 3) := by decide +kernel
theorem dX8_join_8 : decode cX8_join 8 = .ok (.invokestatic 160, 3) := by decide +kernel
theorem dX8_join_11 : decode cX8_join 11 = .ok (.ifCond .ne 5, 3) := by decide +kernel
theorem dX8_join_14 : decode cX8_join 14 = .ok (.iconst (-1), 1) := by decide +kernel
theorem dX8_join_15 : decode cX8_join 15 = .ok (.ireturn, 1) := by decide +kernel
theorem dX8_join_16 : decode cX8_join 16 = .ok (.aload_n 0, 1) := by decide +kernel
theorem dX8_join_17 : decode cX8_join 17 = .ok (.getfield 12, 3) := by decide +kernel
theorem dX8_join_20 : decode cX8_join 20 = .ok (.getfield 156, 3) := by decide +kernel
theorem dX8_join_23 : decode cX8_join 23 = .ok (.iload_n 1, 1) := by decide +kernel
theorem dX8_join_24 : decode cX8_join 24 = .ok (.invokestatic 175, 3) := by decide +kernel
theorem dX8_join_27 : decode cX8_join 27 = .ok (.ifCond .ne 6, 3) := by decide +kernel
theorem dX8_join_30 : decode cX8_join 30 = .ok (.bipush (-5), 2) := by decide +kernel
theorem dX8_join_32 : decode cX8_join 32 = .ok (.ireturn, 1) := by decide +kernel
theorem dX8_join_33 : decode cX8_join 33 = .ok (.aload_n 0, 1) := by decide +kernel
theorem dX8_join_34 : decode cX8_join 34 = .ok (.getfield 12, 3) := by decide +kernel
theorem dX8_join_37 : decode cX8_join 37 = .ok (.aload_n 0, 1) := by decide +kernel
theorem dX8_join_38 : decode cX8_join 38 = .ok (.getfield 12, 3) := by decide +kernel
theorem dX8_join_41 : decode cX8_join 41 = .ok (.getfield 156, 3) := by decide +kernel
theorem dX8_join_44 : decode cX8_join 44 = .ok (.iload_n 1, 1) := by decide +kernel
theorem dX8_join_45 : decode cX8_join 45 = .ok (.invokestatic 178, 3) := by decide +kernel
theorem dX8_join_48 : decode cX8_join 48 = .ok (.putfield 156, 3) := by decide +kernel
theorem dX8_join_51 : decode cX8_join 51 = .ok (.aload_n 0, 1) := by decide +kernel
theorem dX8_join_52 : decode cX8_join 52 = .ok (.getfield 24, 3) := by decide +kernel
theorem dX8_join_55 : decode cX8_join 55 = .ok (.aload_n 0, 1) := by decide +kernel
theorem dX8_join_56 : decode cX8_join 56 = .ok (.getfield 12, 3) := by decide +kernel
theorem dX8_join_59 : decode cX8_join 59 = .ok (.invokevirtual 65, 3) := by decide +kernel
theorem dX8_join_62 : decode cX8_join 62 = .ok (.aload_n 0, 1) := by decide +kernel
theorem dX8_join_63 : decode cX8_join 63 = .ok (.getfield 12, 3) := by decide +kernel
theorem dX8_join_66 : decode cX8_join 66 = .ok (.getfield 156, 3) := by decide +kernel
theorem dX8_join_69 : decode cX8_join 69 = .ok (.invokestatic 172, 3) := by decide +kernel
theorem dX8_join_72 : decode cX8_join 72 = .ok (.ireturn, 1) := by decide +kernel
set_option maxRecDepth 20000 in
theorem ggX8_splitAt_X6_nth : GoodIn wsX8_splitAt wsX6_nth := goodIn_r _ [6, 7, 8, 9, 10, 11, 12, 13] (by decide +kernel) (by decide +kernel)
set_option maxRecDepth 20000 in
theorem gX8_splitAt_X6_nth : GoodIn wsX8_splitAt (va_wsS RX8 181 yX6_nth wsX6_nth) := goodIn_app (goodIn_of _ (by decide +kernel)) ggX8_splitAt_X6_nth
theorem dX8_splitAt_0 : decode cX8_splitAt 0 = .ok (.iload_n 1, 1) := by decide +kernel
theorem dX8_splitAt_1 : decode cX8_splitAt 1 = .ok (.ifCond .ge 5, 3) := by decide +kernel
theorem dX8_splitAt_4 : decode cX8_splitAt 4 = .ok (.iconst (-1), 1) := by decide +kernel
theorem dX8_splitAt_5 : decode cX8_splitAt 5 = .ok (.ireturn, 1) := by decide +kernel
theorem dX8_splitAt_6 : decode cX8_splitAt 6 = .ok (.aload_n 0, 1) := by decide +kernel
theorem dX8_splitAt_7 : decode cX8_splitAt 7 = .ok (.getfield 12, 3) := by decide +kernel
theorem dX8_splitAt_10 : decode cX8_splitAt 10 = .ok (.getfield 156, 3) := by decide +kernel
theorem dX8_splitAt_13 : decode cX8_splitAt 13 = .ok (.iload_n 1, 1) := by decide +kernel
theorem dX8_splitAt_14 : decode cX8_splitAt 14 = .ok (.invokestatic 181, 3) := by decide +kernel
theorem dX8_splitAt_17 : decode cX8_splitAt 17 = .ok (.istore_n 2, 1) := by decide +kernel
theorem dX8_splitAt_18 : decode cX8_splitAt 18 = .ok (.iload_n 2, 1) := by decide +kernel
theorem dX8_splitAt_19 : decode cX8_splitAt 19 = .ok (.iconst (-1), 1) := by decide +kernel
theorem dX8_splitAt_20 : decode cX8_splitAt 20 = .ok (.if_icmp .ne 8, 3) := by decide +kernel
theorem dX8_splitAt_23 : decode cX8_splitAt 23 = .ok (.bipush (-2), 2) := by decide +kernel
theorem dX8_splitAt_25 : decode cX8_splitAt 25 = .ok (.goto 4, 3) := by decide +kernel
theorem dX8_splitAt_28 : decode cX8_splitAt 28 = .ok (.iload_n 2, 1) := by decide +kernel
theorem dX8_splitAt_29 : decode cX8_splitAt 29 = .ok (.ireturn, 1) := by decide +kernel
set_option maxRecDepth 20000 in
theorem ggX8_may_X6_isSplit : GoodIn wsX8_may wsX6_isSplit := goodIn_r _ [7, 8, 9, 6, 10, 11, 12, 13, 14, 15, 16, 17] (by decide +kernel) (by decide +kernel)
set_option maxRecDepth 20000 in
theorem gX8_may_X6_isSplit : GoodIn wsX8_may (va_wsS RX8 160 yX6_isSplit wsX6_isSplit) := goodIn_app (goodIn_of _ (by decide +kernel)) ggX8_may_X6_isSplit
set_option maxRecDepth 20000 in
theorem ggX8_may_X6_fits : GoodIn wsX8_may wsX6_fits := goodIn_r _ [20, 21, 22, 6, 23, 24, 25, 26, 27, 28, 29, 30, 31, 32, 33, 34, 35, 36, 37, 38, 39] (by decide +kernel) (by decide +kernel)
set_option maxRecDepth 20000 in
theorem gX8_may_X6_fits : GoodIn wsX8_may (va_wsS RX8 164 yX6_fits wsX6_fits) := goodIn_app (goodIn_of _ (by decide +kernel)) ggX8_may_X6_fits
theorem dX8_may_0 : decode cX8_may 0 = .ok (.iload_n 1, 1) := by decide +kernel
theorem dX8_may_1 : decode cX8_may 1 = .ok (.aload_n 0, 1) := by decide +kernel
theorem dX8_may_2 : decode cX8_may 2 = .ok (.getfield 12, 3) := by decide +kernel
theorem dX8_may_5 : decode cX8_may 5 = .ok (.getfield 153, 3) := by decide +kernel
theorem dX8_may_8 : decode cX8_may 8 = .ok (.invokestatic 160, 3) := by decide +kernel
theorem dX8_may_11 : decode cX8_may 11 = .ok (.ifCond .ne 5, 3) := by decide +kernel
theorem dX8_may_14 : decode cX8_may 14 = .ok (.iconst (-1), 1) := by decide +kernel
theorem dX8_may_15 : decode cX8_may 15 = .ok (.ireturn, 1) := by decide +kernel
theorem dX8_may_16 : decode cX8_may 16 = .ok (.aload_n 0, 1) := by decide +kernel
theorem dX8_may_17 : decode cX8_may 17 = .ok (.getfield 12, 3) := by decide +kernel
theorem dX8_may_20 : decode cX8_may 20 = .ok (.getfield 156, 3) := by decide +kernel
theorem dX8_may_23 : decode cX8_may 23 = .ok (.iload_n 1, 1) := by decide +kernel
theorem dX8_may_24 : decode cX8_may 24 = .ok (.invokestatic 164, 3) := by decide +kernel
theorem dX8_may_27 : decode cX8_may 27 = .ok (.ifCond .eq 7, 3) := by decide +kernel
theorem dX8_may_30 : decode cX8_may 30 = .ok (.iconst 1, 1) := by decide +kernel
theorem dX8_may_31 : decode cX8_may 31 = .ok (.goto 4, 3) := by decide +kernel
theorem dX8_may_34 : decode cX8_may 34 = .ok (.iconst 0, 1) := by decide +kernel
theorem dX8_may_35 : decode cX8_may 35 = .ok (.ireturn, 1) := by decide +kernel
set_option maxRecDepth 20000 in
theorem ggX8_valence_X6_isSplit : GoodIn wsX8_valence wsX6_isSplit := goodIn_r _ [7, 8, 9, 6, 10, 11, 12, 13, 14, 15, 16, 17] (by decide +kernel) (by decide +kernel)
set_option maxRecDepth 20000 in
theorem gX8_valence_X6_isSplit : GoodIn wsX8_valence (va_wsS RX8 160 yX6_isSplit wsX6_isSplit) := goodIn_app (goodIn_of _ (by decide +kernel)) ggX8_valence_X6_isSplit
set_option maxRecDepth 20000 in
theorem ggX8_valence_X6_has : GoodIn wsX8_valence wsX6_has := goodIn_r _ [20] (by decide +kernel) (by decide +kernel)
set_option maxRecDepth 20000 in
theorem gX8_valence_X6_has : GoodIn wsX8_valence (va_wsS RX8 175 yX6_has wsX6_has) := goodIn_app (goodIn_of _ (by decide +kernel)) ggX8_valence_X6_has
set_option maxRecDepth 20000 in
theorem ggX8_valence_X6_under : GoodIn wsX8_valence wsX6_under := goodIn_r _ [23] (by decide +kernel) (by decide +kernel)
set_option maxRecDepth 20000 in
theorem gX8_valence_X6_under : GoodIn wsX8_valence (va_wsS RX8 185 yX6_under wsX6_under) := goodIn_app (goodIn_of _ (by decide +kernel)) ggX8_valence_X6_under
set_option maxRecDepth 20000 in
theorem ggX8_valence_X6_leavesAt : GoodIn wsX8_valence wsX6_leavesAt := goodIn_r _ [26, 27, 28, 6, 29, 30, 31, 32, 33, 34, 35, 36, 37, 38, 39, 40, 41, 42, 43, 44, 45, 46, 47, 48] (by decide +kernel) (by decide +kernel)
set_option maxRecDepth 20000 in
theorem gX8_valence_X6_leavesAt : GoodIn wsX8_valence (va_wsS RX8 189 yX6_leavesAt wsX6_leavesAt) := goodIn_app (goodIn_of _ (by decide +kernel)) ggX8_valence_X6_leavesAt
set_option maxRecDepth 20000 in
theorem ggX8_valence_J6_bitCount_0f7a4 : GoodIn wsX8_valence wsJ6_bitCount_0f7a4 := goodIn_r _ [14, 15, 16, 17] (by decide +kernel) (by decide +kernel)
set_option maxRecDepth 20000 in
theorem gX8_valence_J6_bitCount_0f7a4 : GoodIn wsX8_valence (va_wsS RX8 192 yJ6_bitCount_0f7a4 wsJ6_bitCount_0f7a4) := goodIn_app (goodIn_of _ (by decide +kernel)) ggX8_valence_J6_bitCount_0f7a4
set_option maxRecDepth 20000 in
theorem ggX8_valence_X6_edgesDown : GoodIn wsX8_valence wsX6_edgesDown := goodIn_r _ [52, 27, 28, 6, 29, 30, 31, 32, 33, 34, 35, 36, 37, 38, 39, 40, 41, 42, 43, 44, 45, 46, 47, 48, 53, 54, 55] (by decide +kernel) (by decide +kernel)
set_option maxRecDepth 20000 in
theorem gX8_valence_X6_edgesDown : GoodIn wsX8_valence (va_wsS RX8 197 yX6_edgesDown wsX6_edgesDown) := goodIn_app (goodIn_of _ (by decide +kernel)) ggX8_valence_X6_edgesDown
theorem dX8_valence_0 : decode cX8_valence 0 = .ok (.iload_n 1, 1) := by decide +kernel
theorem dX8_valence_1 : decode cX8_valence 1 = .ok (.ifCond .eq 19, 3) := by decide +kernel
theorem dX8_valence_4 : decode cX8_valence 4 = .ok (.iload_n 1, 1) := by decide +kernel
theorem dX8_valence_5 : decode cX8_valence 5 = .ok (.aload_n 0, 1) := by decide +kernel
theorem dX8_valence_6 : decode cX8_valence 6 = .ok (.getfield 12, 3) := by decide +kernel
theorem dX8_valence_9 : decode cX8_valence 9 = .ok (.getfield 153, 3) := by decide +kernel
theorem dX8_valence_12 : decode cX8_valence 12 = .ok (.invokestatic 160, 3) := by decide +kernel
theorem dX8_valence_15 : decode cX8_valence 15 = .ok (.ifCond .ne 5, 3) := by decide +kernel
theorem dX8_valence_18 : decode cX8_valence 18 = .ok (.iconst (-1), 1) := by decide +kernel
theorem dX8_valence_19 : decode cX8_valence 19 = .ok (.ireturn, 1) := by decide +kernel
theorem dX8_valence_20 : decode cX8_valence 20 = .ok (.iload_n 1, 1) := by decide +kernel
theorem dX8_valence_21 : decode cX8_valence 21 = .ok (.ifCond .eq 20, 3) := by decide +kernel
theorem dX8_valence_24 : decode cX8_valence 24 = .ok (.aload_n 0, 1) := by decide +kernel
theorem dX8_valence_25 : decode cX8_valence 25 = .ok (.getfield 12, 3) := by decide +kernel
theorem dX8_valence_28 : decode cX8_valence 28 = .ok (.getfield 156, 3) := by decide +kernel
theorem dX8_valence_31 : decode cX8_valence 31 = .ok (.iload_n 1, 1) := by decide +kernel
theorem dX8_valence_32 : decode cX8_valence 32 = .ok (.invokestatic 175, 3) := by decide +kernel
theorem dX8_valence_35 : decode cX8_valence 35 = .ok (.ifCond .ne 6, 3) := by decide +kernel
theorem dX8_valence_38 : decode cX8_valence 38 = .ok (.bipush (-5), 2) := by decide +kernel
theorem dX8_valence_40 : decode cX8_valence 40 = .ok (.ireturn, 1) := by decide +kernel
theorem dX8_valence_41 : decode cX8_valence 41 = .ok (.iload_n 1, 1) := by decide +kernel
theorem dX8_valence_42 : decode cX8_valence 42 = .ok (.aload_n 0, 1) := by decide +kernel
theorem dX8_valence_43 : decode cX8_valence 43 = .ok (.getfield 12, 3) := by decide +kernel
theorem dX8_valence_46 : decode cX8_valence 46 = .ok (.getfield 153, 3) := by decide +kernel
theorem dX8_valence_49 : decode cX8_valence 49 = .ok (.invokestatic 185, 3) := by decide +kernel
theorem dX8_valence_52 : decode cX8_valence 52 = .ok (.istore_n 2, 1) := by decide +kernel
theorem dX8_valence_53 : decode cX8_valence 53 = .ok (.aload_n 0, 1) := by decide +kernel
theorem dX8_valence_54 : decode cX8_valence 54 = .ok (.getfield 12, 3) := by decide +kernel
theorem dX8_valence_57 : decode cX8_valence 57 = .ok (.getfield 156, 3) := by decide +kernel
theorem dX8_valence_60 : decode cX8_valence 60 = .ok (.iload_n 2, 1) := by decide +kernel
theorem dX8_valence_61 : decode cX8_valence 61 = .ok (.invokestatic 189, 3) := by decide +kernel
theorem dX8_valence_64 : decode cX8_valence 64 = .ok (.invokestatic 192, 3) := by decide +kernel
theorem dX8_valence_67 : decode cX8_valence 67 = .ok (.istore_n 3, 1) := by decide +kernel
theorem dX8_valence_68 : decode cX8_valence 68 = .ok (.iload_n 3, 1) := by decide +kernel
theorem dX8_valence_69 : decode cX8_valence 69 = .ok (.aload_n 0, 1) := by decide +kernel
theorem dX8_valence_70 : decode cX8_valence 70 = .ok (.getfield 12, 3) := by decide +kernel
theorem dX8_valence_73 : decode cX8_valence 73 = .ok (.getfield 156, 3) := by decide +kernel
theorem dX8_valence_76 : decode cX8_valence 76 = .ok (.iload_n 2, 1) := by decide +kernel
theorem dX8_valence_77 : decode cX8_valence 77 = .ok (.invokestatic 197, 3) := by decide +kernel
theorem dX8_valence_80 : decode cX8_valence 80 = .ok (.iadd, 1) := by decide +kernel
theorem dX8_valence_81 : decode cX8_valence 81 = .ok (.iconst 1, 1) := by decide +kernel
theorem dX8_valence_82 : decode cX8_valence 82 = .ok (.iadd, 1) := by decide +kernel
theorem dX8_valence_83 : decode cX8_valence 83 = .ok (.ireturn, 1) := by decide +kernel
set_option maxRecDepth 20000 in
theorem ggX8_trees_X6_isLeafCount : GoodIn wsX8_trees wsX6_isLeafCount := goodIn_r _ [4] (by decide +kernel) (by decide +kernel)
set_option maxRecDepth 20000 in
theorem gX8_trees_X6_isLeafCount : GoodIn wsX8_trees (va_wsS RX8 148 yX6_isLeafCount wsX6_isLeafCount) := goodIn_app (goodIn_of _ (by decide +kernel)) ggX8_trees_X6_isLeafCount
set_option maxRecDepth 20000 in
theorem ggX8_trees_X8_isSplitCount : GoodIn wsX8_trees wsX8_isSplitCount := goodIn_r _ [8] (by decide +kernel) (by decide +kernel)
set_option maxRecDepth 20000 in
theorem gX8_trees_X8_isSplitCount : GoodIn wsX8_trees (va_wsS RX8 200 yX8_isSplitCount wsX8_isSplitCount) := goodIn_app (goodIn_of _ (by decide +kernel)) ggX8_trees_X8_isSplitCount
set_option maxRecDepth 20000 in
theorem ggX8_trees_X6_countTrees : GoodIn wsX8_trees wsX6_countTrees := goodIn_r _ [11, 12, 13, 3, 14, 15, 16, 17, 18, 19, 20, 21, 22, 23, 24, 25, 26, 27, 28, 2, 4, 29, 30, 31, 32, 33, 34, 35, 36, 37, 38, 39, 40, 41, 42, 43, 44, 45, 46, 47, 48, 49, 50] (by decide +kernel) (by decide +kernel)
set_option maxRecDepth 20000 in
theorem gX8_trees_X6_countTrees : GoodIn wsX8_trees (va_wsS RX8 203 yX6_countTrees wsX6_countTrees) := goodIn_app (goodIn_of _ (by decide +kernel)) ggX8_trees_X6_countTrees
theorem dX8_trees_0 : decode cX8_trees 0 = .ok (.iload_n 1, 1) := by decide +kernel
theorem dX8_trees_1 : decode cX8_trees 1 = .ok (.invokestatic 148, 3) := by decide +kernel
theorem dX8_trees_4 : decode cX8_trees 4 = .ok (.ifCond .eq 10, 3) := by decide +kernel
theorem dX8_trees_7 : decode cX8_trees 7 = .ok (.iload_n 2, 1) := by decide +kernel
theorem dX8_trees_8 : decode cX8_trees 8 = .ok (.invokestatic 200, 3) := by decide +kernel
theorem dX8_trees_11 : decode cX8_trees 11 = .ok (.ifCond .ne 5, 3) := by decide +kernel
theorem dX8_trees_14 : decode cX8_trees 14 = .ok (.iconst (-1), 1) := by decide +kernel
theorem dX8_trees_15 : decode cX8_trees 15 = .ok (.ireturn, 1) := by decide +kernel
theorem dX8_trees_16 : decode cX8_trees 16 = .ok (.iload_n 1, 1) := by decide +kernel
theorem dX8_trees_17 : decode cX8_trees 17 = .ok (.iload_n 2, 1) := by decide +kernel
theorem dX8_trees_18 : decode cX8_trees 18 = .ok (.invokestatic 203, 3) := by decide +kernel
theorem dX8_trees_21 : decode cX8_trees 21 = .ok (.ireturn, 1) := by decide +kernel
set_option maxRecDepth 20000 in
theorem ggX8_tree_X6_isLeafCount : GoodIn wsX8_tree wsX6_isLeafCount := goodIn_r _ [4] (by decide +kernel) (by decide +kernel)
set_option maxRecDepth 20000 in
theorem gX8_tree_X6_isLeafCount : GoodIn wsX8_tree (va_wsS RX8 148 yX6_isLeafCount wsX6_isLeafCount) := goodIn_app (goodIn_of _ (by decide +kernel)) ggX8_tree_X6_isLeafCount
set_option maxRecDepth 20000 in
theorem ggX8_tree_X8_isSplitCount : GoodIn wsX8_tree wsX8_isSplitCount := goodIn_r _ [8] (by decide +kernel) (by decide +kernel)
set_option maxRecDepth 20000 in
theorem gX8_tree_X8_isSplitCount : GoodIn wsX8_tree (va_wsS RX8 200 yX8_isSplitCount wsX8_isSplitCount) := goodIn_app (goodIn_of _ (by decide +kernel)) ggX8_tree_X8_isSplitCount
set_option maxRecDepth 20000 in
theorem ggX8_tree_X6_treeAt : GoodIn wsX8_tree wsX6_treeAt := goodIn_r _ [11, 12, 13, 3, 14, 15, 2, 4, 16, 17, 18, 19, 20, 21, 22, 23, 24, 25, 26, 27, 28, 29, 30, 31, 32, 33, 34, 35, 36, 37, 38, 39, 40, 41, 42, 43, 44, 45, 46, 47, 48, 49, 50] (by decide +kernel) (by decide +kernel)
set_option maxRecDepth 20000 in
theorem gX8_tree_X6_treeAt : GoodIn wsX8_tree (va_wsS RX8 206 yX6_treeAt wsX6_treeAt) := goodIn_app (goodIn_of _ (by decide +kernel)) ggX8_tree_X6_treeAt
set_option maxRecDepth 20000 in
theorem ggX8_tree_X6_nth : GoodIn wsX8_tree wsX6_nth := goodIn_r _ [38, 29, 30, 31, 32, 33, 34, 35] (by decide +kernel) (by decide +kernel)
set_option maxRecDepth 20000 in
theorem gX8_tree_X6_nth : GoodIn wsX8_tree (va_wsS RX8 181 yX6_nth wsX6_nth) := goodIn_app (goodIn_of _ (by decide +kernel)) ggX8_tree_X6_nth
theorem dX8_tree_0 : decode cX8_tree 0 = .ok (.iload_n 1, 1) := by decide +kernel
theorem dX8_tree_1 : decode cX8_tree 1 = .ok (.invokestatic 148, 3) := by decide +kernel
theorem dX8_tree_4 : decode cX8_tree 4 = .ok (.ifCond .eq 19, 3) := by decide +kernel
theorem dX8_tree_7 : decode cX8_tree 7 = .ok (.iload_n 2, 1) := by decide +kernel
theorem dX8_tree_8 : decode cX8_tree 8 = .ok (.invokestatic 200, 3) := by decide +kernel
theorem dX8_tree_11 : decode cX8_tree 11 = .ok (.ifCond .eq 12, 3) := by decide +kernel
theorem dX8_tree_14 : decode cX8_tree 14 = .ok (.iload_n 3, 1) := by decide +kernel
theorem dX8_tree_15 : decode cX8_tree 15 = .ok (.ifCond .lt 8, 3) := by decide +kernel
theorem dX8_tree_18 : decode cX8_tree 18 = .ok (.iload 4, 2) := by decide +kernel
theorem dX8_tree_20 : decode cX8_tree 20 = .ok (.ifCond .ge 5, 3) := by decide +kernel
theorem dX8_tree_23 : decode cX8_tree 23 = .ok (.iconst (-1), 1) := by decide +kernel
theorem dX8_tree_24 : decode cX8_tree 24 = .ok (.ireturn, 1) := by decide +kernel
theorem dX8_tree_25 : decode cX8_tree 25 = .ok (.iload_n 1, 1) := by decide +kernel
theorem dX8_tree_26 : decode cX8_tree 26 = .ok (.iload_n 2, 1) := by decide +kernel
theorem dX8_tree_27 : decode cX8_tree 27 = .ok (.iload_n 3, 1) := by decide +kernel
theorem dX8_tree_28 : decode cX8_tree 28 = .ok (.invokestatic 206, 3) := by decide +kernel
theorem dX8_tree_31 : decode cX8_tree 31 = .ok (.iload 4, 2) := by decide +kernel
theorem dX8_tree_33 : decode cX8_tree 33 = .ok (.invokestatic 181, 3) := by decide +kernel
theorem dX8_tree_36 : decode cX8_tree 36 = .ok (.istore 5, 2) := by decide +kernel
theorem dX8_tree_38 : decode cX8_tree 38 = .ok (.iload 5, 2) := by decide +kernel
theorem dX8_tree_40 : decode cX8_tree 40 = .ok (.iconst (-1), 1) := by decide +kernel
theorem dX8_tree_41 : decode cX8_tree 41 = .ok (.if_icmp .ne 8, 3) := by decide +kernel
theorem dX8_tree_44 : decode cX8_tree 44 = .ok (.bipush (-2), 2) := by decide +kernel
theorem dX8_tree_46 : decode cX8_tree 46 = .ok (.goto 5, 3) := by decide +kernel
theorem dX8_tree_49 : decode cX8_tree 49 = .ok (.iload 5, 2) := by decide +kernel
theorem dX8_tree_51 : decode cX8_tree 51 = .ok (.ireturn, 1) := by decide +kernel
set_option maxRecDepth 20000 in
theorem ggX8_forget_X6_forgetLeaf : GoodIn wsX8_forget wsX6_forgetLeaf := goodIn_r _ [8, 9, 10, 7, 11, 12, 13, 14, 15, 16, 17, 18, 19, 20, 21, 22, 23, 24, 25, 26, 27, 28, 29, 30, 31, 32, 33, 34, 35, 36, 37, 38, 39, 40] (by decide +kernel) (by decide +kernel)
set_option maxRecDepth 20000 in
theorem gX8_forget_X6_forgetLeaf : GoodIn wsX8_forget (va_wsS RX8 209 yX6_forgetLeaf wsX6_forgetLeaf) := goodIn_app (goodIn_of _ (by decide +kernel)) ggX8_forget_X6_forgetLeaf
set_option maxRecDepth 20000 in
theorem ggX8_forget_X0_settle : GoodIn wsX8_forget wsX0_settle := goodIn_r _ [45, 46, 47, 48, 49, 50, 44, 51, 52, 53, 54, 55, 56, 57, 58, 59, 60, 61, 62, 63, 64, 65, 66, 67, 68, 69, 70, 71, 72, 73, 74, 75, 76, 77, 78, 94, 95, 96, 89, 90, 91, 92, 93] (by decide +kernel) (by decide +kernel)
