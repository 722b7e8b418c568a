set_option maxRecDepth 20000 in
theorem gX8_forget_X0_settle : GoodIn wsX8_forget (wsV RX8 65 RX0 yX0_settle wsX0_settle) := goodIn_app (goodIn_of _ (by decide +kernel)) ggX8_forget_X0_settle
set_option maxRecDepth 20000 in
theorem ggX8_forget_X6_sizeOf : GoodIn wsX8_forget wsX6_sizeOf := goodIn_r _ [11, 12, 13, 14, 15, 16, 17, 18] (by decide +kernel) (by decide +kernel)
set_option maxRecDepth 20000 in
theorem gX8_forget_X6_sizeOf : GoodIn wsX8_forget (va_wsS RX8 172 yX6_sizeOf wsX6_sizeOf) := goodIn_app (goodIn_of _ (by decide +kernel)) ggX8_forget_X6_sizeOf
theorem dX8_forget_0 : decode cX8_forget 0 = .ok (.iload_n 1, 1) := by decide +kernel
theorem dX8_forget_1 : decode cX8_forget 1 = .ok (.ifCond .lt 14, 3) := by decide +kernel
theorem dX8_forget_4 : decode cX8_forget 4 = .ok (.iload_n 1, 1) := by decide +kernel
theorem dX8_forget_5 : decode cX8_forget 5 = .ok (.aload_n 0, 1) := by decide +kernel
theorem dX8_forget_6 : decode cX8_forget 6 = .ok (.getfield 12, 3) := by decide +kernel
theorem dX8_forget_9 : decode cX8_forget 9 = .ok (.getfield 153, 3) := by decide +kernel
theorem dX8_forget_12 : decode cX8_forget 12 = .ok (.if_icmp .lt 5, 3) := by decide +kernel
theorem dX8_forget_15 : decode cX8_forget 15 = .ok (.iconst (-1), 1) := by decide +kernel
theorem dX8_forget_16 : decode cX8_forget 16 = .ok (.ireturn, 1) := by decide +kernel
theorem dX8_forget_17 : decode cX8_forget 17 = .ok (.aload_n 0, 1) := by decide +kernel
theorem dX8_forget_18 : decode cX8_forget 18 = .ok (.getfield 12, 3) := by decide +kernel
theorem dX8_forget_21 : decode cX8_forget 21 = .ok (.getfield 153, 3) := by decide +kernel
theorem dX8_forget_24 : decode cX8_forget 24 = .ok (.iconst 3, 1) := by decide +kernel
theorem dX8_forget_25 : decode cX8_forget 25 = .ok (.if_icmp .gt 6, 3) := by decide +kernel
theorem dX8_forget_28 : decode cX8_forget 28 = .ok (.bipush (-5), 2) := by decide +kernel
theorem dX8_forget_30 : decode cX8_forget 30 = .ok (.ireturn, 1) := by decide +kernel
theorem dX8_forget_31 : decode cX8_forget 31 = .ok (.aload_n 0, 1) := by decide +kernel
theorem dX8_forget_32 : decode cX8_forget 32 = .ok (.getfield 12, 3) := by decide +kernel
theorem dX8_forget_35 : decode cX8_forget 35 = .ok (.aload_n 0, 1) := by decide +kernel
theorem dX8_forget_36 : decode cX8_forget 36 = .ok (.getfield 12, 3) := by decide +kernel
theorem dX8_forget_39 : decode cX8_forget 39 = .ok (.getfield 156, 3) := by decide +kernel
theorem dX8_forget_42 : decode cX8_forget 42 = .ok (.aload_n 0, 1) := by decide +kernel
theorem dX8_forget_43 : decode cX8_forget 43 = .ok (.getfield 12, 3) := by decide +kernel
theorem dX8_forget_46 : decode cX8_forget 46 = .ok (.getfield 153, 3) := by decide +kernel
theorem dX8_forget_49 : decode cX8_forget 49 = .ok (.iload_n 1, 1) := by decide +kernel
theorem dX8_forget_50 : decode cX8_forget 50 = .ok (.invokestatic 209, 3) := by decide +kernel
theorem dX8_forget_53 : decode cX8_forget 53 = .ok (.putfield 156, 3) := by decide +kernel
theorem dX8_forget_56 : decode cX8_forget 56 = .ok (.aload_n 0, 1) := by decide +kernel
theorem dX8_forget_57 : decode cX8_forget 57 = .ok (.getfield 12, 3) := by decide +kernel
theorem dX8_forget_60 : decode cX8_forget 60 = .ok (.dup, 1) := by decide +kernel
theorem dX8_forget_61 : decode cX8_forget 61 = .ok (.getfield 153, 3) := by decide +kernel
theorem dX8_forget_64 : decode cX8_forget 64 = .ok (.iconst 1, 1) := by decide +kernel
theorem dX8_forget_65 : decode cX8_forget 65 = .ok (.isub, 1) := by decide +kernel
theorem dX8_forget_66 : decode cX8_forget 66 = .ok (.putfield 153, 3) := by decide +kernel
theorem dX8_forget_69 : decode cX8_forget 69 = .ok (.aload_n 0, 1) := by decide +kernel
theorem dX8_forget_70 : decode cX8_forget 70 = .ok (.getfield 24, 3) := by decide +kernel
theorem dX8_forget_73 : decode cX8_forget 73 = .ok (.aload_n 0, 1) := by decide +kernel
theorem dX8_forget_74 : decode cX8_forget 74 = .ok (.getfield 12, 3) := by decide +kernel
theorem dX8_forget_77 : decode cX8_forget 77 = .ok (.invokevirtual 65, 3) := by decide +kernel
theorem dX8_forget_80 : decode cX8_forget 80 = .ok (.aload_n 0, 1) := by decide +kernel
theorem dX8_forget_81 : decode cX8_forget 81 = .ok (.getfield 12, 3) := by decide +kernel
theorem dX8_forget_84 : decode cX8_forget 84 = .ok (.getfield 156, 3) := by decide +kernel
theorem dX8_forget_87 : decode cX8_forget 87 = .ok (.invokestatic 172, 3) := by decide +kernel
theorem dX8_forget_90 : decode cX8_forget 90 = .ok (.ireturn, 1) := by decide +kernel
set_option maxRecDepth 20000 in
theorem ggX8_onTree_X8_numberOfNode : GoodIn wsX8_onTree wsX8_numberOfNode := goodIn_r _ [10, 1, 3, 5, 11, 2, 12, 13, 14, 15, 16, 17, 18, 19, 20, 21, 22, 23, 24, 25, 26, 27, 28, 29, 30, 31, 32, 33, 34, 35, 36, 37, 38, 39, 40, 41, 42, 43, 44, 45, 46, 47, 48, 49, 50, 51, 52, 53, 54, 55, 56, 57, 58, 59, 60, 61, 62, 63, 64, 65, 66, 67, 68, 69, 70, 71, 72, 73, 74, 75, 76, 77, 78, 79, 80, 81, 82, 83, 84, 85, 86, 87, 88, 89, 90, 91, 92, 93, 94, 95, 96, 97, 98, 99, 100, 101, 102, 103, 104, 105, 106, 107, 108, 109, 110, 111, 112, 115, 116, 117, 118, 119, 120, 121, 122, 123, 124, 125, 126, 127, 128, 129, 130, 131, 132, 133, 134, 135] (by decide +kernel) (by decide +kernel)
set_option maxRecDepth 20000 in
theorem gX8_onTree_X8_numberOfNode : GoodIn wsX8_onTree (wsV RX8 213 RX8 yX8_numberOfNode wsX8_numberOfNode) := goodIn_app (goodIn_of _ (by decide +kernel)) ggX8_onTree_X8_numberOfNode
set_option maxRecDepth 20000 in
theorem ggX8_onTree_X6_sizeOf : GoodIn wsX8_onTree wsX6_sizeOf := goodIn_r _ [24, 25, 26, 27, 28, 29, 30, 31] (by decide +kernel) (by decide +kernel)
set_option maxRecDepth 20000 in
theorem gX8_onTree_X6_sizeOf : GoodIn wsX8_onTree (va_wsS RX8 172 yX6_sizeOf wsX6_sizeOf) := goodIn_app (goodIn_of _ (by decide +kernel)) ggX8_onTree_X6_sizeOf
set_option maxRecDepth 20000 in
theorem ggX8_onTree_X6_nth : GoodIn wsX8_onTree wsX6_nth := goodIn_r _ [34, 25, 26, 27, 28, 29, 30, 31] (by decide +kernel) (by decide +kernel)
set_option maxRecDepth 20000 in
theorem gX8_onTree_X6_nth : GoodIn wsX8_onTree (va_wsS RX8 181 yX6_nth wsX6_nth) := goodIn_app (goodIn_of _ (by decide +kernel)) ggX8_onTree_X6_nth
theorem dX8_onTree_0 : decode cX8_onTree 0 = .ok (.aload_n 0, 1) := by decide +kernel
theorem dX8_onTree_1 : decode cX8_onTree 1 = .ok (.getfield 12, 3) := by decide +kernel
theorem dX8_onTree_4 : decode cX8_onTree 4 = .ok (.getfield 73, 3) := by decide +kernel
theorem dX8_onTree_7 : decode cX8_onTree 7 = .ok (.aload_n 0, 1) := by decide +kernel
theorem dX8_onTree_8 : decode cX8_onTree 8 = .ok (.getfield 12, 3) := by decide +kernel
theorem dX8_onTree_11 : decode cX8_onTree 11 = .ok (.getfield 153, 3) := by decide +kernel
theorem dX8_onTree_14 : decode cX8_onTree 14 = .ok (.if_icmp .eq 7, 3) := by decide +kernel
theorem dX8_onTree_17 : decode cX8_onTree 17 = .ok (.ldc2_w 114, 3) := by decide +kernel
theorem dX8_onTree_20 : decode cX8_onTree 20 = .ok (.lreturn, 1) := by decide +kernel
theorem dX8_onTree_21 : decode cX8_onTree 21 = .ok (.aload_n 0, 1) := by decide +kernel
theorem dX8_onTree_22 : decode cX8_onTree 22 = .ok (.iconst 0, 1) := by decide +kernel
theorem dX8_onTree_23 : decode cX8_onTree 23 = .ok (.invokevirtual 213, 3) := by decide +kernel
theorem dX8_onTree_26 : decode cX8_onTree 26 = .ok (.lstore_n 1, 1) := by decide +kernel
theorem dX8_onTree_27 : decode cX8_onTree 27 = .ok (.aload_n 0, 1) := by decide +kernel
theorem dX8_onTree_28 : decode cX8_onTree 28 = .ok (.getfield 12, 3) := by decide +kernel
theorem dX8_onTree_31 : decode cX8_onTree 31 = .ok (.getfield 156, 3) := by decide +kernel
theorem dX8_onTree_34 : decode cX8_onTree 34 = .ok (.invokestatic 172, 3) := by decide +kernel
theorem dX8_onTree_37 : decode cX8_onTree 37 = .ok (.istore_n 3, 1) := by decide +kernel
theorem dX8_onTree_38 : decode cX8_onTree 38 = .ok (.iconst 0, 1) := by decide +kernel
theorem dX8_onTree_39 : decode cX8_onTree 39 = .ok (.istore 4, 2) := by decide +kernel
theorem dX8_onTree_41 : decode cX8_onTree 41 = .ok (.iload 4, 2) := by decide +kernel
theorem dX8_onTree_43 : decode cX8_onTree 43 = .ok (.iload_n 3, 1) := by decide +kernel
theorem dX8_onTree_44 : decode cX8_onTree 44 = .ok (.if_icmp .ge 28, 3) := by decide +kernel
theorem dX8_onTree_47 : decode cX8_onTree 47 = .ok (.lload_n 1, 1) := by decide +kernel
theorem dX8_onTree_48 : decode cX8_onTree 48 = .ok (.aload_n 0, 1) := by decide +kernel
theorem dX8_onTree_49 : decode cX8_onTree 49 = .ok (.aload_n 0, 1) := by decide +kernel
theorem dX8_onTree_50 : decode cX8_onTree 50 = .ok (.getfield 12, 3) := by decide +kernel
theorem dX8_onTree_53 : decode cX8_onTree 53 = .ok (.getfield 156, 3) := by decide +kernel
theorem dX8_onTree_56 : decode cX8_onTree 56 = .ok (.iload 4, 2) := by decide +kernel
theorem dX8_onTree_58 : decode cX8_onTree 58 = .ok (.invokestatic 181, 3) := by decide +kernel
theorem dX8_onTree_61 : decode cX8_onTree 61 = .ok (.invokevirtual 213, 3) := by decide +kernel
theorem dX8_onTree_64 : decode cX8_onTree 64 = .ok (.lmul, 1) := by decide +kernel
theorem dX8_onTree_65 : decode cX8_onTree 65 = .ok (.lstore_n 1, 1) := by decide +kernel
theorem dX8_onTree_66 : decode cX8_onTree 66 = .ok (.iinc 4 1, 3) := by decide +kernel
theorem dX8_onTree_69 : decode cX8_onTree 69 = .ok (.goto (-28), 3) := by decide +kernel
theorem dX8_onTree_72 : decode cX8_onTree 72 = .ok (.lload_n 1, 1) := by decide +kernel
theorem dX8_onTree_73 : decode cX8_onTree 73 = .ok (.lreturn, 1) := by decide +kernel
set_option maxRecDepth 20000 in
theorem ggX8_undo_X0_undoable : GoodIn wsX8_undo wsX0_undoable := goodIn_r _ [7, 8, 37, 38, 39] (by decide +kernel) (by decide +kernel)
set_option maxRecDepth 20000 in
theorem gX8_undo_X0_undoable : GoodIn wsX8_undo (wsV RX8 216 RX0 yX0_undoable wsX0_undoable) := goodIn_app (goodIn_of _ (by decide +kernel)) ggX8_undo_X0_undoable
set_option maxRecDepth 20000 in
theorem ggX8_undo_X0_stepBack : GoodIn wsX8_undo wsX0_stepBack := goodIn_r _ [12, 8, 13, 14, 15, 6, 16, 17, 18, 19, 20, 21, 22, 23, 24, 25, 26, 27, 37, 38, 39, 40, 41, 42, 43, 44] (by decide +kernel) (by decide +kernel)
set_option maxRecDepth 20000 in
theorem gX8_undo_X0_stepBack : GoodIn wsX8_undo (wsV RX8 220 RX0 yX0_stepBack wsX0_stepBack) := goodIn_app (goodIn_of _ (by decide +kernel)) ggX8_undo_X0_stepBack
theorem dX8_undo_0 : decode cX8_undo 0 = .ok (.aload_n 0, 1) := by decide +kernel
theorem dX8_undo_1 : decode cX8_undo 1 = .ok (.getfield 24, 3) := by decide +kernel
theorem dX8_undo_4 : decode cX8_undo 4 = .ok (.invokevirtual 216, 3) := by decide +kernel
theorem dX8_undo_7 : decode cX8_undo 7 = .ok (.ifCond .ne 6, 3) := by decide +kernel
theorem dX8_undo_10 : decode cX8_undo 10 = .ok (.bipush (-5), 2) := by decide +kernel
theorem dX8_undo_12 : decode cX8_undo 12 = .ok (.ireturn, 1) := by decide +kernel
theorem dX8_undo_13 : decode cX8_undo 13 = .ok (.aload_n 0, 1) := by decide +kernel
theorem dX8_undo_14 : decode cX8_undo 14 = .ok (.getfield 24, 3) := by decide +kernel
theorem dX8_undo_17 : decode cX8_undo 17 = .ok (.aload_n 0, 1) := by decide +kernel
theorem dX8_undo_18 : decode cX8_undo 18 = .ok (.getfield 12, 3) := by decide +kernel
theorem dX8_undo_21 : decode cX8_undo 21 = .ok (.invokevirtual 220, 3) := by decide +kernel
theorem dX8_undo_24 : decode cX8_undo 24 = .ok (.aload_n 0, 1) := by decide +kernel
theorem dX8_undo_25 : decode cX8_undo 25 = .ok (.getfield 24, 3) := by decide +kernel
theorem dX8_undo_28 : decode cX8_undo 28 = .ok (.invokevirtual 216, 3) := by decide +kernel
theorem dX8_undo_31 : decode cX8_undo 31 = .ok (.ireturn, 1) := by decide +kernel
set_option maxRecDepth 20000 in
theorem ggX8_again_X0_repeatable : GoodIn wsX8_again wsX0_repeatable := goodIn_r _ [7, 8, 9, 38, 39, 40] (by decide +kernel) (by decide +kernel)
set_option maxRecDepth 20000 in
theorem gX8_again_X0_repeatable : GoodIn wsX8_again (wsV RX8 223 RX0 yX0_repeatable wsX0_repeatable) := goodIn_app (goodIn_of _ (by decide +kernel)) ggX8_again_X0_repeatable
set_option maxRecDepth 20000 in
theorem ggX8_again_X0_stepOn : GoodIn wsX8_again wsX0_stepOn := goodIn_r _ [13, 9, 8, 14, 15, 16, 6, 17, 18, 19, 20, 21, 22, 23, 24, 25, 26, 27, 28, 38, 39, 40, 41, 42, 43, 44, 45] (by decide +kernel) (by decide +kernel)
set_option maxRecDepth 20000 in
theorem gX8_again_X0_stepOn : GoodIn wsX8_again (wsV RX8 226 RX0 yX0_stepOn wsX0_stepOn) := goodIn_app (goodIn_of _ (by decide +kernel)) ggX8_again_X0_stepOn
theorem dX8_again_0 : decode cX8_again 0 = .ok (.aload_n 0, 1) := by decide +kernel
theorem dX8_again_1 : decode cX8_again 1 = .ok (.getfield 24, 3) := by decide +kernel
theorem dX8_again_4 : decode cX8_again 4 = .ok (.invokevirtual 223, 3) := by decide +kernel
theorem dX8_again_7 : decode cX8_again 7 = .ok (.ifCond .ne 6, 3) := by decide +kernel
theorem dX8_again_10 : decode cX8_again 10 = .ok (.bipush (-5), 2) := by decide +kernel
theorem dX8_again_12 : decode cX8_again 12 = .ok (.ireturn, 1) := by decide +kernel
theorem dX8_again_13 : decode cX8_again 13 = .ok (.aload_n 0, 1) := by decide +kernel
theorem dX8_again_14 : decode cX8_again 14 = .ok (.getfield 24, 3) := by decide +kernel
theorem dX8_again_17 : decode cX8_again 17 = .ok (.aload_n 0, 1) := by decide +kernel
theorem dX8_again_18 : decode cX8_again 18 = .ok (.getfield 12, 3) := by decide +kernel
theorem dX8_again_21 : decode cX8_again 21 = .ok (.invokevirtual 226, 3) := by decide +kernel
theorem dX8_again_24 : decode cX8_again 24 = .ok (.aload_n 0, 1) := by decide +kernel
theorem dX8_again_25 : decode cX8_again 25 = .ok (.getfield 24, 3) := by decide +kernel
theorem dX8_again_28 : decode cX8_again 28 = .ok (.invokevirtual 223, 3) := by decide +kernel
theorem dX8_again_31 : decode cX8_again 31 = .ok (.ireturn, 1) := by decide +kernel
set_option maxRecDepth 20000 in
theorem ggX8_feed_X7_add : GoodIn wsX8_feed wsX7_add := goodIn_r _ [7, 8, 9, 19, 20] (by decide +kernel) (by decide +kernel)
set_option maxRecDepth 20000 in
theorem gX8_feed_X7_add : GoodIn wsX8_feed (wsV RX8 232 RX7 yX7_add wsX7_add) := goodIn_app (goodIn_of _ (by decide +kernel)) ggX8_feed_X7_add
theorem dX8_feed_0 : decode cX8_feed 0 = .ok (.iload_n 2, 1) := by decide +kernel
theorem dX8_feed_1 : decode cX8_feed 1 = .ok (.iconst 1, 1) := by decide +kernel
theorem dX8_feed_2 : decode cX8_feed 2 = .ok (.if_icmp .lt 8, 3) := by decide +kernel
theorem dX8_feed_5 : decode cX8_feed 5 = .ok (.iload_n 2, 1) := by decide +kernel
theorem dX8_feed_6 : decode cX8_feed 6 = .ok (.iconst 4, 1) := by decide +kernel
theorem dX8_feed_7 : decode cX8_feed 7 = .ok (.if_icmp .le 5, 3) := by decide +kernel
theorem dX8_feed_10 : decode cX8_feed 10 = .ok (.iconst (-1), 1) := by decide +kernel
theorem dX8_feed_11 : decode cX8_feed 11 = .ok (.ireturn, 1) := by decide +kernel
theorem dX8_feed_12 : decode cX8_feed 12 = .ok (.aload_n 0, 1) := by decide +kernel
theorem dX8_feed_13 : decode cX8_feed 13 = .ok (.getfield 46, 3) := by decide +kernel
theorem dX8_feed_16 : decode cX8_feed 16 = .ok (.getfield 229, 3) := by decide +kernel
theorem dX8_feed_19 : decode cX8_feed 19 = .ok (.iload_n 2, 1) := by decide +kernel
theorem dX8_feed_20 : decode cX8_feed 20 = .ok (.iadd, 1) := by decide +kernel
theorem dX8_feed_21 : decode cX8_feed 21 = .ok (.bipush 60, 2) := by decide +kernel
theorem dX8_feed_23 : decode cX8_feed 23 = .ok (.if_icmp .le 6, 3) := by decide +kernel
theorem dX8_feed_26 : decode cX8_feed 26 = .ok (.bipush (-3), 2) := by decide +kernel
theorem dX8_feed_28 : decode cX8_feed 28 = .ok (.ireturn, 1) := by decide +kernel
theorem dX8_feed_29 : decode cX8_feed 29 = .ok (.iload_n 2, 1) := by decide +kernel
theorem dX8_feed_30 : decode cX8_feed 30 = .ok (.iconst 1, 1) := by decide +kernel
theorem dX8_feed_31 : decode cX8_feed 31 = .ok (.isub, 1) := by decide +kernel
theorem dX8_feed_32 : decode cX8_feed 32 = .ok (.istore_n 3, 1) := by decide +kernel
theorem dX8_feed_33 : decode cX8_feed 33 = .ok (.iload_n 3, 1) := by decide +kernel
theorem dX8_feed_34 : decode cX8_feed 34 = .ok (.ifCond .lt 26, 3) := by decide +kernel
theorem dX8_feed_37 : decode cX8_feed 37 = .ok (.aload_n 0, 1) := by decide +kernel
theorem dX8_feed_38 : decode cX8_feed 38 = .ok (.getfield 46, 3) := by decide +kernel
theorem dX8_feed_41 : decode cX8_feed 41 = .ok (.iload_n 1, 1) := by decide +kernel
theorem dX8_feed_42 : decode cX8_feed 42 = .ok (.bipush 8, 2) := by decide +kernel
theorem dX8_feed_44 : decode cX8_feed 44 = .ok (.iload_n 3, 1) := by decide +kernel
theorem dX8_feed_45 : decode cX8_feed 45 = .ok (.imul, 1) := by decide +kernel
theorem dX8_feed_46 : decode cX8_feed 46 = .ok (.iushr, 1) := by decide +kernel
theorem dX8_feed_47 : decode cX8_feed 47 = .ok (.sipush 255, 3) := by decide +kernel
theorem dX8_feed_50 : decode cX8_feed 50 = .ok (.iand, 1) := by decide +kernel
theorem dX8_feed_51 : decode cX8_feed 51 = .ok (.invokevirtual 232, 3) := by decide +kernel
theorem dX8_feed_54 : decode cX8_feed 54 = .ok (.iinc 3 (-1), 3) := by decide +kernel
theorem dX8_feed_57 : decode cX8_feed 57 = .ok (.goto (-24), 3) := by decide +kernel
theorem dX8_feed_60 : decode cX8_feed 60 = .ok (.aload_n 0, 1) := by decide +kernel
theorem dX8_feed_61 : decode cX8_feed 61 = .ok (.getfield 46, 3) := by decide +kernel
theorem dX8_feed_64 : decode cX8_feed 64 = .ok (.getfield 229, 3) := by decide +kernel
theorem dX8_feed_67 : decode cX8_feed 67 = .ok (.ireturn, 1) := by decide +kernel
theorem dX8_wipe_0 : decode cX8_wipe 0 = .ok (.aload_n 0, 1) := by decide +kernel
theorem dX8_wipe_1 : decode cX8_wipe 1 = .ok (.getfield 46, 3) := by decide +kernel
theorem dX8_wipe_4 : decode cX8_wipe 4 = .ok (.getfield 229, 3) := by decide +kernel
theorem dX8_wipe_7 : decode cX8_wipe 7 = .ok (.istore_n 1, 1) := by decide +kernel
theorem dX8_wipe_8 : decode cX8_wipe 8 = .ok (.aload_n 0, 1) := by decide +kernel
theorem dX8_wipe_9 : decode cX8_wipe 9 = .ok (.getfield 46, 3) := by decide +kernel
theorem dX8_wipe_12 : decode cX8_wipe 12 = .ok (.iconst 0, 1) := by decide +kernel
theorem dX8_wipe_13 : decode cX8_wipe 13 = .ok (.putfield 229, 3) := by decide +kernel
theorem dX8_wipe_16 : decode cX8_wipe 16 = .ok (.iload_n 1, 1) := by decide +kernel
theorem dX8_wipe_17 : decode cX8_wipe 17 = .ok (.ireturn, 1) := by decide +kernel
set_option maxRecDepth 20000 in
theorem ggX8_read_X4_readOver : GoodIn wsX8_read wsX4_readOver := goodIn_r _ [10, 11, 12, 13, 14, 15, 16, 17, 18, 19, 20, 21, 22, 23, 24, 25, 26, 27, 9, 28, 29, 30, 31, 32, 33, 34, 35, 36, 37, 38, 39, 40, 41, 42, 43, 44, 45, 46, 47, 48, 49, 50, 51, 52, 53, 54, 55, 56, 57, 58, 59, 60, 61, 62, 63, 64, 65, 66, 67, 68, 69, 70, 71, 72, 73, 74, 75, 76, 77, 78, 79, 80, 81, 82, 83, 84, 85, 86, 87, 88, 89, 90, 91, 92, 93, 94, 95, 96, 97, 98, 99, 100, 101, 102, 103, 104, 105, 106, 107, 108, 109, 110, 111, 112, 113, 114, 115, 116, 117, 118, 119, 120, 121, 122, 123, 124, 125, 126, 127, 128, 129, 130, 131, 132, 133, 134, 135, 136, 137, 138, 139, 140, 141, 142, 143, 144, 145, 146, 147, 148, 149, 150, 151, 192, 193, 194, 195, 196, 197, 198, 199, 200, 201, 202, 190, 191] (by decide +kernel) (by decide +kernel)
set_option maxRecDepth 20000 in
theorem gX8_read_X4_readOver : GoodIn wsX8_read (wsV RX8 235 RX4 yX4_readOver wsX4_readOver) := goodIn_app (goodIn_of _ (by decide +kernel)) ggX8_read_X4_readOver
set_option maxRecDepth 20000 in
theorem ggX8_read_X0_settle : GoodIn wsX8_read wsX0_settle := goodIn_r _ [156, 157, 158, 159, 160, 161, 155, 162, 163, 164, 165, 166, 18, 167, 20, 23, 24, 21, 168, 169, 170, 171, 172, 173, 174, 175, 22, 176, 177, 178, 179, 180, 16, 17, 19, 203, 204, 205, 198, 199, 200, 201, 202] (by decide +kernel) (by decide +kernel)
set_option maxRecDepth 20000 in
theorem gX8_read_X0_settle : GoodIn wsX8_read (wsV RX8 65 RX0 yX0_settle wsX0_settle) := goodIn_app (goodIn_of _ (by decide +kernel)) ggX8_read_X0_settle
theorem dX8_read_0 : decode cX8_read 0 = .ok (.aload_n 0, 1) := by decide +kernel
theorem dX8_read_1 : decode cX8_read 1 = .ok (.getfield 38, 3) := by decide +kernel
theorem dX8_read_4 : decode cX8_read 4 = .ok (.aload_n 0, 1) := by decide +kernel
theorem dX8_read_5 : decode cX8_read 5 = .ok (.getfield 12, 3) := by decide +kernel
theorem dX8_read_8 : decode cX8_read 8 = .ok (.invokevirtual 235, 3) := by decide +kernel
theorem dX8_read_11 : decode cX8_read 11 = .ok (.istore_n 1, 1) := by decide +kernel
theorem dX8_read_12 : decode cX8_read 12 = .ok (.aload_n 0, 1) := by decide +kernel
theorem dX8_read_13 : decode cX8_read 13 = .ok (.getfield 46, 3) := by decide +kernel
theorem dX8_read_16 : decode cX8_read 16 = .ok (.iconst 0, 1) := by decide +kernel
theorem dX8_read_17 : decode cX8_read 17 = .ok (.putfield 229, 3) := by decide +kernel
theorem dX8_read_20 : decode cX8_read 20 = .ok (.aload_n 0, 1) := by decide +kernel
theorem dX8_read_21 : decode cX8_read 21 = .ok (.getfield 24, 3) := by decide +kernel
theorem dX8_read_24 : decode cX8_read 24 = .ok (.aload_n 0, 1) := by decide +kernel
theorem dX8_read_25 : decode cX8_read 25 = .ok (.getfield 12, 3) := by decide +kernel
theorem dX8_read_28 : decode cX8_read 28 = .ok (.invokevirtual 65, 3) := by decide +kernel
theorem dX8_read_31 : decode cX8_read 31 = .ok (.iload_n 1, 1) := by decide +kernel
theorem dX8_read_32 : decode cX8_read 32 = .ok (.ireturn, 1) := by decide +kernel
set_option maxRecDepth 20000 in
theorem ggX8_why_X4_causeAt : GoodIn wsX8_why wsX4_causeAt := goodIn_r _ [7, 8, 18, 19, 20, 21, 22, 23] (by decide +kernel) (by decide +kernel)
set_option maxRecDepth 20000 in
theorem gX8_why_X4_causeAt : GoodIn wsX8_why (wsV RX8 242 RX4 yX4_causeAt wsX4_causeAt) := goodIn_app (goodIn_of _ (by decide +kernel)) ggX8_why_X4_causeAt
theorem dX8_why_0 : decode cX8_why 0 = .ok (.iload_n 1, 1) := by decide +kernel
theorem dX8_why_1 : decode cX8_why 1 = .ok (.ifCond .lt 17, 3) := by decide +kernel
theorem dX8_why_4 : decode cX8_why 4 = .ok (.iload_n 1, 1) := by decide +kernel
theorem dX8_why_5 : decode cX8_why 5 = .ok (.iconst 2, 1) := by decide +kernel
theorem dX8_why_6 : decode cX8_why 6 = .ok (.if_icmp .gt 12, 3) := by decide +kernel
theorem dX8_why_9 : decode cX8_why 9 = .ok (.iload_n 2, 1) := by decide +kernel
theorem dX8_why_10 : decode cX8_why 10 = .ok (.ifCond .lt 8, 3) := by decide +kernel
theorem dX8_why_13 : decode cX8_why 13 = .ok (.iload_n 2, 1) := by decide +kernel
theorem dX8_why_14 : decode cX8_why 14 = .ok (.iconst 1, 1) := by decide +kernel
theorem dX8_why_15 : decode cX8_why 15 = .ok (.if_icmp .le 5, 3) := by decide +kernel
theorem dX8_why_18 : decode cX8_why 18 = .ok (.iconst (-1), 1) := by decide +kernel
theorem dX8_why_19 : decode cX8_why 19 = .ok (.ireturn, 1) := by decide +kernel
theorem dX8_why_20 : decode cX8_why 20 = .ok (.aload_n 0, 1) := by decide +kernel
theorem dX8_why_21 : decode cX8_why 21 = .ok (.getfield 38, 3) := by decide +kernel
theorem dX8_why_24 : decode cX8_why 24 = .ok (.getfield 238, 3) := by decide +kernel
theorem dX8_why_27 : decode cX8_why 27 = .ok (.ifCond .eq 15, 3) := by decide +kernel
theorem dX8_why_30 : decode cX8_why 30 = .ok (.aload_n 0, 1) := by decide +kernel
theorem dX8_why_31 : decode cX8_why 31 = .ok (.getfield 38, 3) := by decide +kernel
theorem dX8_why_34 : decode cX8_why 34 = .ok (.iload_n 1, 1) := by decide +kernel
theorem dX8_why_35 : decode cX8_why 35 = .ok (.iload_n 2, 1) := by decide +kernel
theorem dX8_why_36 : decode cX8_why 36 = .ok (.invokevirtual 242, 3) := by decide +kernel
theorem dX8_why_39 : decode cX8_why 39 = .ok (.goto 5, 3) := by decide +kernel
theorem dX8_why_42 : decode cX8_why 42 = .ok (.bipush (-2), 2) := by decide +kernel
theorem dX8_why_44 : decode cX8_why 44 = .ok (.ireturn, 1) := by decide +kernel
set_option maxRecDepth 20000 in
theorem ggX8_spell_X5_tell : GoodIn wsX8_spell wsX5_tell := goodIn_r _ [8, 9, 10, 11, 12, 13, 14, 15, 16, 7, 17, 18, 19, 20, 21, 22, 23, 24, 25, 26, 27, 28, 29, 30, 31, 32, 33, 34, 35, 36, 37, 38, 39, 40, 41, 42, 43, 44, 45, 46, 47, 48, 49, 50, 64, 65, 66, 67, 68, 69, 70] (by decide +kernel) (by decide +kernel)
set_option maxRecDepth 20000 in
theorem gX8_spell_X5_tell : GoodIn wsX8_spell (wsV RX8 245 RX5 yX5_tell wsX5_tell) := goodIn_app (goodIn_of _ (by decide +kernel)) ggX8_spell_X5_tell
set_option maxRecDepth 20000 in
theorem ggX8_spell_X5_byteAt : GoodIn wsX8_spell wsX5_byteAt := goodIn_r _ [54, 9, 22, 64, 65] (by decide +kernel) (by decide +kernel)
set_option maxRecDepth 20000 in
theorem gX8_spell_X5_byteAt : GoodIn wsX8_spell (wsV RX8 249 RX5 yX5_byteAt wsX5_byteAt) := goodIn_app (goodIn_of _ (by decide +kernel)) ggX8_spell_X5_byteAt
theorem dX8_spell_0 : decode cX8_spell 0 = .ok (.iload_n 1, 1) := by decide +kernel
theorem dX8_spell_1 : decode cX8_spell 1 = .ok (.iconst (-1), 1) := by decide +kernel
theorem dX8_spell_2 : decode cX8_spell 2 = .ok (.if_icmp .ge 5, 3) := by decide +kernel
theorem dX8_spell_5 : decode cX8_spell 5 = .ok (.iconst (-1), 1) := by decide +kernel
theorem dX8_spell_6 : decode cX8_spell 6 = .ok (.ireturn, 1) := by decide +kernel
theorem dX8_spell_7 : decode cX8_spell 7 = .ok (.aload_n 0, 1) := by decide +kernel
theorem dX8_spell_8 : decode cX8_spell 8 = .ok (.getfield 50, 3) := by decide +kernel
theorem dX8_spell_11 : decode cX8_spell 11 = .ok (.aload_n 0, 1) := by decide +kernel
theorem dX8_spell_12 : decode cX8_spell 12 = .ok (.getfield 12, 3) := by decide +kernel
theorem dX8_spell_15 : decode cX8_spell 15 = .ok (.invokevirtual 245, 3) := by decide +kernel
theorem dX8_spell_18 : decode cX8_spell 18 = .ok (.iload_n 1, 1) := by decide +kernel
theorem dX8_spell_19 : decode cX8_spell 19 = .ok (.iconst (-1), 1) := by decide +kernel
theorem dX8_spell_20 : decode cX8_spell 20 = .ok (.if_icmp .ne 13, 3) := by decide +kernel
theorem dX8_spell_23 : decode cX8_spell 23 = .ok (.aload_n 0, 1) := by decide +kernel
theorem dX8_spell_24 : decode cX8_spell 24 = .ok (.getfield 50, 3) := by decide +kernel
theorem dX8_spell_27 : decode cX8_spell 27 = .ok (.getfield 248, 3) := by decide +kernel
theorem dX8_spell_30 : decode cX8_spell 30 = .ok (.goto 11, 3) := by decide +kernel
theorem dX8_spell_33 : decode cX8_spell 33 = .ok (.aload_n 0, 1) := by decide +kernel
theorem dX8_spell_34 : decode cX8_spell 34 = .ok (.getfield 50, 3) := by decide +kernel
theorem dX8_spell_37 : decode cX8_spell 37 = .ok (.iload_n 1, 1) := by decide +kernel
theorem dX8_spell_38 : decode cX8_spell 38 = .ok (.invokevirtual 249, 3) := by decide +kernel
theorem dX8_spell_41 : decode cX8_spell 41 = .ok (.ireturn, 1) := by decide +kernel
set_option maxRecDepth 20000 in
theorem ggX8_hold_X8_holderAt : GoodIn wsX8_hold wsX8_holderAt := goodIn_r _ [9, 10, 134, 135, 136, 137, 138, 139, 140, 141, 142] (by decide +kernel) (by decide +kernel)
set_option maxRecDepth 20000 in
theorem gX8_hold_X8_holderAt : GoodIn wsX8_hold (wsV RX8 252 RX8 yX8_holderAt wsX8_holderAt) := goodIn_app (goodIn_of _ (by decide +kernel)) ggX8_hold_X8_holderAt
set_option maxRecDepth 20000 in
theorem ggX8_hold_X8_number : GoodIn wsX8_hold wsX8_number := goodIn_r _ [14, 15, 1, 16, 17, 18, 8, 19, 20, 21, 22, 23, 24, 25, 26, 27, 28, 2, 29, 30, 31, 32, 33, 34, 35, 36, 37, 38, 39, 40, 41, 42, 43, 44, 45, 46, 47, 48, 49, 50, 51, 52, 53, 54, 55, 56, 57, 58, 59, 60, 61, 62, 63, 64, 65, 66, 67, 68, 69, 70, 71, 72, 73, 74, 75, 76, 77, 78, 79, 80, 81, 82, 83, 84, 85, 86, 87, 88, 89, 90, 91, 92, 93, 94, 95, 96, 97, 98, 99, 100, 101, 102, 103, 104, 105, 106, 107, 108, 109, 134, 135, 136, 137, 138, 139, 140, 141, 142, 143, 144, 145, 146, 147, 148, 149, 150, 151, 152, 153, 154] (by decide +kernel) (by decide +kernel)
set_option maxRecDepth 20000 in
theorem gX8_hold_X8_number : GoodIn wsX8_hold (wsV RX8 256 RX8 yX8_number wsX8_number) := goodIn_app (goodIn_of _ (by decide +kernel)) ggX8_hold_X8_number
set_option maxRecDepth 20000 in
theorem ggX8_hold_X2_holdNumber : GoodIn wsX8_hold wsX2_holdNumber := goodIn_r _ [114, 115, 116, 155, 156, 157, 158, 159, 160] (by decide +kernel) (by decide +kernel)
set_option maxRecDepth 20000 in
theorem gX8_hold_X2_holdNumber : GoodIn wsX8_hold (wsV RX8 259 RX2 yX2_holdNumber wsX2_holdNumber) := goodIn_app (goodIn_of _ (by decide +kernel)) ggX8_hold_X2_holdNumber
set_option maxRecDepth 20000 in
theorem ggX8_hold_X2_holdTree : GoodIn wsX8_hold wsX2_holdTree := goodIn_r _ [120, 115, 121, 122, 155, 156, 157, 158, 159, 160] (by decide +kernel) (by decide +kernel)
set_option maxRecDepth 20000 in
theorem gX8_hold_X2_holdTree : GoodIn wsX8_hold (wsV RX8 263 RX2 yX2_holdTree wsX2_holdTree) := goodIn_app (goodIn_of _ (by decide +kernel)) ggX8_hold_X2_holdTree
set_option maxRecDepth 20000 in
theorem ggX8_hold_X6_sizeOf : GoodIn wsX8_hold wsX6_sizeOf := goodIn_r _ [126, 127, 128, 129, 130, 131, 132, 133] (by decide +kernel) (by decide +kernel)
set_option maxRecDepth 20000 in
theorem gX8_hold_X6_sizeOf : GoodIn wsX8_hold (va_wsS RX8 172 yX6_sizeOf wsX6_sizeOf) := goodIn_app (goodIn_of _ (by decide +kernel)) ggX8_hold_X6_sizeOf
theorem dX8_hold_0 : decode cX8_hold 0 = .ok (.aload_n 0, 1) := by decide +kernel
theorem dX8_hold_1 : decode cX8_hold 1 = .ok (.iload_n 1, 1) := by decide +kernel
theorem dX8_hold_2 : decode cX8_hold 2 = .ok (.invokevirtual 252, 3) := by decide +kernel
theorem dX8_hold_5 : decode cX8_hold 5 = .ok (.astore_n 3, 1) := by decide +kernel
theorem dX8_hold_6 : decode cX8_hold 6 = .ok (.aload_n 3, 1) := by decide +kernel
theorem dX8_hold_7 : decode cX8_hold 7 = .ok (.ifnull 12, 3) := by decide +kernel
theorem dX8_hold_10 : decode cX8_hold 10 = .ok (.iload_n 2, 1) := by decide +kernel
theorem dX8_hold_11 : decode cX8_hold 11 = .ok (.ifCond .lt 8, 3) := by decide +kernel
theorem dX8_hold_14 : decode cX8_hold 14 = .ok (.iload_n 2, 1) := by decide +kernel
theorem dX8_hold_15 : decode cX8_hold 15 = .ok (.iconst 1, 1) := by decide +kernel
theorem dX8_hold_16 : decode cX8_hold 16 = .ok (.if_icmp .le 5, 3) := by decide +kernel
theorem dX8_hold_19 : decode cX8_hold 19 = .ok (.iconst (-1), 1) := by decide +kernel
theorem dX8_hold_20 : decode cX8_hold 20 = .ok (.ireturn, 1) := by decide +kernel
theorem dX8_hold_21 : decode cX8_hold 21 = .ok (.iload_n 2, 1) := by decide +kernel
theorem dX8_hold_22 : decode cX8_hold 22 = .ok (.ifCond .ne 20, 3) := by decide +kernel
theorem dX8_hold_25 : decode cX8_hold 25 = .ok (.aload_n 3, 1) := by decide +kernel
theorem dX8_hold_26 : decode cX8_hold 26 = .ok (.aload_n 0, 1) := by decide +kernel
theorem dX8_hold_27 : decode cX8_hold 27 = .ok (.iconst 0, 1) := by decide +kernel
theorem dX8_hold_28 : decode cX8_hold 28 = .ok (.invokevirtual 256, 3) := by decide +kernel
theorem dX8_hold_31 : decode cX8_hold 31 = .ok (.invokevirtual 259, 3) := by decide +kernel
theorem dX8_hold_34 : decode cX8_hold 34 = .ok (.aload_n 0, 1) := by decide +kernel
theorem dX8_hold_35 : decode cX8_hold 35 = .ok (.getfield 12, 3) := by decide +kernel
theorem dX8_hold_38 : decode cX8_hold 38 = .ok (.getfield 73, 3) := by decide +kernel
theorem dX8_hold_41 : decode cX8_hold 41 = .ok (.ireturn, 1) := by decide +kernel
theorem dX8_hold_42 : decode cX8_hold 42 = .ok (.aload_n 3, 1) := by decide +kernel
theorem dX8_hold_43 : decode cX8_hold 43 = .ok (.aload_n 0, 1) := by decide +kernel
theorem dX8_hold_44 : decode cX8_hold 44 = .ok (.getfield 12, 3) := by decide +kernel
theorem dX8_hold_47 : decode cX8_hold 47 = .ok (.getfield 156, 3) := by decide +kernel
theorem dX8_hold_50 : decode cX8_hold 50 = .ok (.aload_n 0, 1) := by decide +kernel
theorem dX8_hold_51 : decode cX8_hold 51 = .ok (.getfield 12, 3) := by decide +kernel
theorem dX8_hold_54 : decode cX8_hold 54 = .ok (.getfield 153, 3) := by decide +kernel
theorem dX8_hold_57 : decode cX8_hold 57 = .ok (.invokevirtual 263, 3) := by decide +kernel
theorem dX8_hold_60 : decode cX8_hold 60 = .ok (.aload_n 0, 1) := by decide +kernel
theorem dX8_hold_61 : decode cX8_hold 61 = .ok (.getfield 12, 3) := by decide +kernel
theorem dX8_hold_64 : decode cX8_hold 64 = .ok (.getfield 156, 3) := by decide +kernel
theorem dX8_hold_67 : decode cX8_hold 67 = .ok (.invokestatic 172, 3) := by decide +kernel
theorem dX8_hold_70 : decode cX8_hold 70 = .ok (.ireturn, 1) := by decide +kernel
set_option maxRecDepth 20000 in
theorem ggX8_lose_X8_holderAt : GoodIn wsX8_lose wsX8_holderAt := goodIn_r _ [6, 7, 14, 15, 16, 17, 18, 19, 20, 21, 22] (by decide +kernel) (by decide +kernel)
set_option maxRecDepth 20000 in
theorem gX8_lose_X8_holderAt : GoodIn wsX8_lose (wsV RX8 252 RX8 yX8_holderAt wsX8_holderAt) := goodIn_app (goodIn_of _ (by decide +kernel)) ggX8_lose_X8_holderAt
theorem dX8_lose_0 : decode cX8_lose 0 = .ok (.aload_n 0, 1) := by decide +kernel
theorem dX8_lose_1 : decode cX8_lose 1 = .ok (.iload_n 1, 1) := by decide +kernel
theorem dX8_lose_2 : decode cX8_lose 2 = .ok (.invokevirtual 252, 3) := by decide +kernel
theorem dX8_lose_5 : decode cX8_lose 5 = .ok (.astore_n 2, 1) := by decide +kernel
theorem dX8_lose_6 : decode cX8_lose 6 = .ok (.aload_n 2, 1) := by decide +kernel
theorem dX8_lose_7 : decode cX8_lose 7 = .ok (.ifnonnull 5, 3) := by decide +kernel
theorem dX8_lose_10 : decode cX8_lose 10 = .ok (.iconst (-1), 1) := by decide +kernel
theorem dX8_lose_11 : decode cX8_lose 11 = .ok (.ireturn, 1) := by decide +kernel
theorem dX8_lose_12 : decode cX8_lose 12 = .ok (.aload_n 2, 1) := by decide +kernel
theorem dX8_lose_13 : decode cX8_lose 13 = .ok (.getfield 267, 3) := by decide +kernel
theorem dX8_lose_16 : decode cX8_lose 16 = .ok (.istore_n 3, 1) := by decide +kernel
theorem dX8_lose_17 : decode cX8_lose 17 = .ok (.aload_n 2, 1) := by decide +kernel
theorem dX8_lose_18 : decode cX8_lose 18 = .ok (.iconst 0, 1) := by decide +kernel
theorem dX8_lose_19 : decode cX8_lose 19 = .ok (.putfield 267, 3) := by decide +kernel
theorem dX8_lose_22 : decode cX8_lose 22 = .ok (.iload_n 3, 1) := by decide +kernel
theorem dX8_lose_23 : decode cX8_lose 23 = .ok (.ireturn, 1) := by decide +kernel
set_option maxRecDepth 20000 in
theorem ggX8_taken_X8_holderAt : GoodIn wsX8_taken wsX8_holderAt := goodIn_r _ [6, 7, 47, 48, 49, 50, 51, 52, 53, 54, 55] (by decide +kernel) (by decide +kernel)
set_option maxRecDepth 20000 in
theorem gX8_taken_X8_holderAt : GoodIn wsX8_taken (wsV RX8 252 RX8 yX8_holderAt wsX8_holderAt) := goodIn_app (goodIn_of _ (by decide +kernel)) ggX8_taken_X8_holderAt
set_option maxRecDepth 20000 in
theorem ggX8_taken_X2_isOfKind : GoodIn wsX8_taken wsX2_isOfKind := goodIn_r _ [12, 13, 14, 15, 16, 17, 11, 18, 19, 20, 21, 22, 23, 24, 25, 26, 27, 28, 29, 30, 41, 42, 43, 44, 45, 46] (by decide +kernel) (by decide +kernel)
set_option maxRecDepth 20000 in
theorem gX8_taken_X2_isOfKind : GoodIn wsX8_taken (wsV RX8 270 RX2 yX2_isOfKind wsX2_isOfKind) := goodIn_app (goodIn_of _ (by decide +kernel)) ggX8_taken_X2_isOfKind
set_option maxRecDepth 20000 in
theorem ggX8_taken_X2_takenFor : GoodIn wsX8_taken wsX2_takenFor := goodIn_r _ [34, 35, 36, 14, 19, 37, 38, 39, 40, 20, 21, 22, 23, 24, 25, 26, 27, 28, 29, 30, 41, 42, 43, 44, 45, 46] (by decide +kernel) (by decide +kernel)
set_option maxRecDepth 20000 in
theorem gX8_taken_X2_takenFor : GoodIn wsX8_taken (wsV RX8 273 RX2 yX2_takenFor wsX2_takenFor) := goodIn_app (goodIn_of _ (by decide +kernel)) ggX8_taken_X2_takenFor
theorem dX8_taken_0 : decode cX8_taken 0 = .ok (.aload_n 0, 1) := by decide +kernel
theorem dX8_taken_1 : decode cX8_taken 1 = .ok (.iload_n 1, 1) := by decide +kernel
theorem dX8_taken_2 : decode cX8_taken 2 = .ok (.invokevirtual 252, 3) := by decide +kernel
theorem dX8_taken_5 : decode cX8_taken 5 = .ok (.astore_n 3, 1) := by decide +kernel
theorem dX8_taken_6 : decode cX8_taken 6 = .ok (.aload_n 3, 1) := by decide +kernel
theorem dX8_taken_7 : decode cX8_taken 7 = .ok (.ifnull 12, 3) := by decide +kernel
theorem dX8_taken_10 : decode cX8_taken 10 = .ok (.iload_n 2, 1) := by decide +kernel
theorem dX8_taken_11 : decode cX8_taken 11 = .ok (.ifCond .lt 8, 3) := by decide +kernel
theorem dX8_taken_14 : decode cX8_taken 14 = .ok (.iload_n 2, 1) := by decide +kernel
theorem dX8_taken_15 : decode cX8_taken 15 = .ok (.iconst 3, 1) := by decide +kernel
theorem dX8_taken_16 : decode cX8_taken 16 = .ok (.if_icmp .le 5, 3) := by decide +kernel
theorem dX8_taken_19 : decode cX8_taken 19 = .ok (.iconst (-1), 1) := by decide +kernel
theorem dX8_taken_20 : decode cX8_taken 20 = .ok (.ireturn, 1) := by decide +kernel
theorem dX8_taken_21 : decode cX8_taken 21 = .ok (.aload_n 3, 1) := by decide +kernel
theorem dX8_taken_22 : decode cX8_taken 22 = .ok (.getfield 267, 3) := by decide +kernel
theorem dX8_taken_25 : decode cX8_taken 25 = .ok (.ifCond .ne 6, 3) := by decide +kernel
theorem dX8_taken_28 : decode cX8_taken 28 = .ok (.bipush (-11), 2) := by decide +kernel
theorem dX8_taken_30 : decode cX8_taken 30 = .ok (.ireturn, 1) := by decide +kernel
theorem dX8_taken_31 : decode cX8_taken 31 = .ok (.aload_n 3, 1) := by decide +kernel
theorem dX8_taken_32 : decode cX8_taken 32 = .ok (.iload_n 2, 1) := by decide +kernel
theorem dX8_taken_33 : decode cX8_taken 33 = .ok (.invokevirtual 270, 3) := by decide +kernel
theorem dX8_taken_36 : decode cX8_taken 36 = .ok (.ifCond .eq 11, 3) := by decide +kernel
theorem dX8_taken_39 : decode cX8_taken 39 = .ok (.aload_n 3, 1) := by decide +kernel
theorem dX8_taken_40 : decode cX8_taken 40 = .ok (.iload_n 2, 1) := by decide +kernel
theorem dX8_taken_41 : decode cX8_taken 41 = .ok (.invokevirtual 273, 3) := by decide +kernel
theorem dX8_taken_44 : decode cX8_taken 44 = .ok (.goto 5, 3) := by decide +kernel
theorem dX8_taken_47 : decode cX8_taken 47 = .ok (.bipush (-12), 2) := by decide +kernel
theorem dX8_taken_49 : decode cX8_taken 49 = .ok (.ireturn, 1) := by decide +kernel
set_option maxRecDepth 20000 in
theorem ggX8_common_X8_holderAt : GoodIn wsX8_common wsX8_holderAt := goodIn_r _ [10, 11, 33, 34, 35, 36, 37, 38, 39, 40, 41] (by decide +kernel) (by decide +kernel)
set_option maxRecDepth 20000 in
theorem gX8_common_X8_holderAt : GoodIn wsX8_common (wsV RX8 252 RX8 yX8_holderAt wsX8_holderAt) := goodIn_app (goodIn_of _ (by decide +kernel)) ggX8_common_X8_holderAt
set_option maxRecDepth 20000 in
theorem ggX8_common_X8_refusalOf : GoodIn wsX8_common wsX8_refusalOf := goodIn_r _ [14, 15, 27, 28, 29, 30, 31, 32] (by decide +kernel) (by decide +kernel)
set_option maxRecDepth 20000 in
theorem gX8_common_X8_refusalOf : GoodIn wsX8_common (va_wsS RX8 276 yX8_refusalOf wsX8_refusalOf) := goodIn_app (goodIn_of _ (by decide +kernel)) ggX8_common_X8_refusalOf
set_option maxRecDepth 20000 in
theorem ggX8_common_X6_sizeOf : GoodIn wsX8_common wsX6_sizeOf := goodIn_r _ [19, 20, 21, 22, 23, 24, 25, 26] (by decide +kernel) (by decide +kernel)
set_option maxRecDepth 20000 in
theorem gX8_common_X6_sizeOf : GoodIn wsX8_common (va_wsS RX8 172 yX6_sizeOf wsX6_sizeOf) := goodIn_app (goodIn_of _ (by decide +kernel)) ggX8_common_X6_sizeOf
theorem dX8_common_0 : decode cX8_common 0 = .ok (.aload_n 0, 1) := by decide +kernel
theorem dX8_common_1 : decode cX8_common 1 = .ok (.iload_n 1, 1) := by decide +kernel
theorem dX8_common_2 : decode cX8_common 2 = .ok (.invokevirtual 252, 3) := by decide +kernel
theorem dX8_common_5 : decode cX8_common 5 = .ok (.astore_n 2, 1) := by decide +kernel
theorem dX8_common_6 : decode cX8_common 6 = .ok (.aload_n 2, 1) := by decide +kernel
theorem dX8_common_7 : decode cX8_common 7 = .ok (.iconst 2, 1) := by decide +kernel
theorem dX8_common_8 : decode cX8_common 8 = .ok (.invokestatic 276, 3) := by decide +kernel
theorem dX8_common_11 : decode cX8_common 11 = .ok (.istore_n 3, 1) := by decide +kernel
theorem dX8_common_12 : decode cX8_common 12 = .ok (.aload_n 2, 1) := by decide +kernel
theorem dX8_common_13 : decode cX8_common 13 = .ok (.ifnull 7, 3) := by decide +kernel
theorem dX8_common_16 : decode cX8_common 16 = .ok (.iload_n 3, 1) := by decide +kernel
theorem dX8_common_17 : decode cX8_common 17 = .ok (.ifCond .eq 5, 3) := by decide +kernel
theorem dX8_common_20 : decode cX8_common 20 = .ok (.iload_n 3, 1) := by decide +kernel
theorem dX8_common_21 : decode cX8_common 21 = .ok (.ireturn, 1) := by decide +kernel
theorem dX8_common_22 : decode cX8_common 22 = .ok (.aload_n 2, 1) := by decide +kernel
theorem dX8_common_23 : decode cX8_common 23 = .ok (.getfield 280, 3) := by decide +kernel
theorem dX8_common_26 : decode cX8_common 26 = .ok (.aload_n 0, 1) := by decide +kernel
theorem dX8_common_27 : decode cX8_common 27 = .ok (.getfield 12, 3) := by decide +kernel
theorem dX8_common_30 : decode cX8_common 30 = .ok (.getfield 153, 3) := by decide +kernel
theorem dX8_common_33 : decode cX8_common 33 = .ok (.if_icmp .eq 6, 3) := by decide +kernel
theorem dX8_common_36 : decode cX8_common 36 = .ok (.bipush (-5), 2) := by decide +kernel
theorem dX8_common_38 : decode cX8_common 38 = .ok (.ireturn, 1) := by decide +kernel
theorem dX8_common_39 : decode cX8_common 39 = .ok (.aload_n 2, 1) := by decide +kernel
theorem dX8_common_40 : decode cX8_common 40 = .ok (.getfield 281, 3) := by decide +kernel
theorem dX8_common_43 : decode cX8_common 43 = .ok (.aload_n 0, 1) := by decide +kernel
theorem dX8_common_44 : decode cX8_common 44 = .ok (.getfield 12, 3) := by decide +kernel
theorem dX8_common_47 : decode cX8_common 47 = .ok (.getfield 156, 3) := by decide +kernel
theorem dX8_common_50 : decode cX8_common 50 = .ok (.land, 1) := by decide +kernel
theorem dX8_common_51 : decode cX8_common 51 = .ok (.invokestatic 172, 3) := by decide +kernel
theorem dX8_common_54 : decode cX8_common 54 = .ok (.ireturn, 1) := by decide +kernel
set_option maxRecDepth 20000 in
theorem ggX8_row_X8_holderAt : GoodIn wsX8_row wsX8_holderAt := goodIn_r _ [5, 6, 15, 16, 17, 18, 19, 20, 21, 22, 23] (by decide +kernel) (by decide +kernel)
set_option maxRecDepth 20000 in
theorem gX8_row_X8_holderAt : GoodIn wsX8_row (wsV RX8 252 RX8 yX8_holderAt wsX8_holderAt) := goodIn_app (goodIn_of _ (by decide +kernel)) ggX8_row_X8_holderAt
set_option maxRecDepth 20000 in
theorem ggX8_row_X2_holdRow : GoodIn wsX8_row wsX2_holdRow := goodIn_r _ [11, 12, 13, 14, 24, 25, 26, 27, 28, 29] (by decide +kernel) (by decide +kernel)
set_option maxRecDepth 20000 in
theorem gX8_row_X2_holdRow : GoodIn wsX8_row (wsV RX8 282 RX2 yX2_holdRow wsX2_holdRow) := goodIn_app (goodIn_of _ (by decide +kernel)) ggX8_row_X2_holdRow
theorem dX8_row_0 : decode cX8_row 0 = .ok (.aload_n 0, 1) := by decide +kernel
theorem dX8_row_1 : decode cX8_row 1 = .ok (.iload_n 1, 1) := by decide +kernel
theorem dX8_row_2 : decode cX8_row 2 = .ok (.invokevirtual 252, 3) := by decide +kernel
theorem dX8_row_5 : decode cX8_row 5 = .ok (.astore_n 3, 1) := by decide +kernel
theorem dX8_row_6 : decode cX8_row 6 = .ok (.aload_n 3, 1) := by decide +kernel
theorem dX8_row_7 : decode cX8_row 7 = .ok (.ifnull 9, 3) := by decide +kernel
theorem dX8_row_10 : decode cX8_row 10 = .ok (.iload_n 2, 1) := by decide +kernel
theorem dX8_row_11 : decode cX8_row 11 = .ok (.bipush 20, 2) := by decide +kernel
theorem dX8_row_13 : decode cX8_row 13 = .ok (.if_icmp .le 5, 3) := by decide +kernel
theorem dX8_row_16 : decode cX8_row 16 = .ok (.iconst (-1), 1) := by decide +kernel
theorem dX8_row_17 : decode cX8_row 17 = .ok (.ireturn, 1) := by decide +kernel
theorem dX8_row_18 : decode cX8_row 18 = .ok (.iload_n 2, 1) := by decide +kernel
theorem dX8_row_19 : decode cX8_row 19 = .ok (.ifCond .ge 6, 3) := by decide +kernel
theorem dX8_row_22 : decode cX8_row 22 = .ok (.bipush (-14), 2) := by decide +kernel
theorem dX8_row_24 : decode cX8_row 24 = .ok (.ireturn, 1) := by decide +kernel
theorem dX8_row_25 : decode cX8_row 25 = .ok (.aload_n 3, 1) := by decide +kernel
theorem dX8_row_26 : decode cX8_row 26 = .ok (.iload_n 2, 1) := by decide +kernel
theorem dX8_row_27 : decode cX8_row 27 = .ok (.invokevirtual 282, 3) := by decide +kernel
theorem dX8_row_30 : decode cX8_row 30 = .ok (.iload_n 2, 1) := by decide +kernel
theorem dX8_row_31 : decode cX8_row 31 = .ok (.ireturn, 1) := by decide +kernel
set_option maxRecDepth 20000 in
theorem ggX8_set_X8_holderAt : GoodIn wsX8_set wsX8_holderAt := goodIn_r _ [6, 7, 24, 25, 26, 27, 28, 29, 30, 31, 32] (by decide +kernel) (by decide +kernel)
set_option maxRecDepth 20000 in
theorem gX8_set_X8_holderAt : GoodIn wsX8_set (wsV RX8 252 RX8 yX8_holderAt wsX8_holderAt) := goodIn_app (goodIn_of _ (by decide +kernel)) ggX8_set_X8_holderAt
set_option maxRecDepth 20000 in
theorem ggX8_set_X8_refusalOf : GoodIn wsX8_set wsX8_refusalOf := goodIn_r _ [10, 11, 18, 19, 20, 21, 22, 23] (by decide +kernel) (by decide +kernel)
set_option maxRecDepth 20000 in
theorem gX8_set_X8_refusalOf : GoodIn wsX8_set (va_wsS RX8 276 yX8_refusalOf wsX8_refusalOf) := goodIn_app (goodIn_of _ (by decide +kernel)) ggX8_set_X8_refusalOf
set_option maxRecDepth 20000 in
theorem ggX8_set_X2_hasPlace : GoodIn wsX8_set wsX2_hasPlace := goodIn_r _ [16, 17, 18, 19, 20, 21, 22, 23] (by decide +kernel) (by decide +kernel)
set_option maxRecDepth 20000 in
theorem gX8_set_X2_hasPlace : GoodIn wsX8_set (wsV RX8 285 RX2 yX2_hasPlace wsX2_hasPlace) := goodIn_app (goodIn_of _ (by decide +kernel)) ggX8_set_X2_hasPlace
theorem dX8_set_0 : decode cX8_set 0 = .ok (.aload_n 0, 1) := by decide +kernel
theorem dX8_set_1 : decode cX8_set 1 = .ok (.iload_n 1, 1) := by decide +kernel
theorem dX8_set_2 : decode cX8_set 2 = .ok (.invokevirtual 252, 3) := by decide +kernel
theorem dX8_set_5 : decode cX8_set 5 = .ok (.astore 4, 2) := by decide +kernel
theorem dX8_set_7 : decode cX8_set 7 = .ok (.aload 4, 2) := by decide +kernel
theorem dX8_set_9 : decode cX8_set 9 = .ok (.iconst 3, 1) := by decide +kernel
theorem dX8_set_10 : decode cX8_set 10 = .ok (.invokestatic 276, 3) := by decide +kernel
theorem dX8_set_13 : decode cX8_set 13 = .ok (.istore 5, 2) := by decide +kernel
theorem dX8_set_15 : decode cX8_set 15 = .ok (.aload 4, 2) := by decide +kernel
theorem dX8_set_17 : decode cX8_set 17 = .ok (.ifnull 8, 3) := by decide +kernel
theorem dX8_set_20 : decode cX8_set 20 = .ok (.iload 5, 2) := by decide +kernel
theorem dX8_set_22 : decode cX8_set 22 = .ok (.ifCond .eq 6, 3) := by decide +kernel
theorem dX8_set_25 : decode cX8_set 25 = .ok (.iload 5, 2) := by decide +kernel
theorem dX8_set_27 : decode cX8_set 27 = .ok (.ireturn, 1) := by decide +kernel
theorem dX8_set_28 : decode cX8_set 28 = .ok (.aload 4, 2) := by decide +kernel
theorem dX8_set_30 : decode cX8_set 30 = .ok (.iload_n 2, 1) := by decide +kernel
theorem dX8_set_31 : decode cX8_set 31 = .ok (.invokevirtual 285, 3) := by decide +kernel
theorem dX8_set_34 : decode cX8_set 34 = .ok (.ifCond .ne 6, 3) := by decide +kernel
theorem dX8_set_37 : decode cX8_set 37 = .ok (.bipush (-13), 2) := by decide +kernel
theorem dX8_set_39 : decode cX8_set 39 = .ok (.ireturn, 1) := by decide +kernel
theorem dX8_set_40 : decode cX8_set 40 = .ok (.aload 4, 2) := by decide +kernel
theorem dX8_set_42 : decode cX8_set 42 = .ok (.getfield 288, 3) := by decide +kernel
theorem dX8_set_45 : decode cX8_set 45 = .ok (.iload_n 2, 1) := by decide +kernel
theorem dX8_set_46 : decode cX8_set 46 = .ok (.iload_n 3, 1) := by decide +kernel
theorem dX8_set_47 : decode cX8_set 47 = .ok (.iastore, 1) := by decide +kernel
theorem dX8_set_48 : decode cX8_set 48 = .ok (.iconst 1, 1) := by decide +kernel
theorem dX8_set_49 : decode cX8_set 49 = .ok (.ireturn, 1) := by decide +kernel
set_option maxRecDepth 20000 in
theorem ggX8_get_X8_holderAt : GoodIn wsX8_get wsX8_holderAt := goodIn_r _ [8, 9, 22, 23, 24, 25, 26, 27, 28, 29, 30] (by decide +kernel) (by decide +kernel)
set_option maxRecDepth 20000 in
theorem gX8_get_X8_holderAt : GoodIn wsX8_get (wsV RX8 252 RX8 yX8_holderAt wsX8_holderAt) := goodIn_app (goodIn_of _ (by decide +kernel)) ggX8_get_X8_holderAt
set_option maxRecDepth 20000 in
theorem ggX8_get_X2_hasPlace : GoodIn wsX8_get wsX2_hasPlace := goodIn_r _ [14, 15, 16, 17, 18, 19, 20, 21] (by decide +kernel) (by decide +kernel)
set_option maxRecDepth 20000 in
theorem gX8_get_X2_hasPlace : GoodIn wsX8_get (wsV RX8 285 RX2 yX2_hasPlace wsX2_hasPlace) := goodIn_app (goodIn_of _ (by decide +kernel)) ggX8_get_X2_hasPlace
theorem dX8_get_0 : decode cX8_get 0 = .ok (.aload_n 0, 1) := by decide +kernel
theorem dX8_get_1 : decode cX8_get 1 = .ok (.iload_n 1, 1) := by decide +kernel
theorem dX8_get_2 : decode cX8_get 2 = .ok (.invokevirtual 252, 3) := by decide +kernel
theorem dX8_get_5 : decode cX8_get 5 = .ok (.astore_n 3, 1) := by decide +kernel
theorem dX8_get_6 : decode cX8_get 6 = .ok (.aload_n 3, 1) := by decide +kernel
theorem dX8_get_7 : decode cX8_get 7 = .ok (.ifnull 19, 3) := by decide +kernel
theorem dX8_get_10 : decode cX8_get 10 = .ok (.aload_n 3, 1) := by decide +kernel
theorem dX8_get_11 : decode cX8_get 11 = .ok (.getfield 267, 3) := by decide +kernel
theorem dX8_get_14 : decode cX8_get 14 = .ok (.iconst 3, 1) := by decide +kernel
theorem dX8_get_15 : decode cX8_get 15 = .ok (.if_icmp .ne 11, 3) := by decide +kernel
theorem dX8_get_18 : decode cX8_get 18 = .ok (.aload_n 3, 1) := by decide +kernel
theorem dX8_get_19 : decode cX8_get 19 = .ok (.iload_n 2, 1) := by decide +kernel
theorem dX8_get_20 : decode cX8_get 20 = .ok (.invokevirtual 285, 3) := by decide +kernel
theorem dX8_get_23 : decode cX8_get 23 = .ok (.ifCond .ne 7, 3) := by decide +kernel
theorem dX8_get_26 : decode cX8_get 26 = .ok (.ldc2_w 114, 3) := by decide +kernel
theorem dX8_get_29 : decode cX8_get 29 = .ok (.lreturn, 1) := by decide +kernel
theorem dX8_get_30 : decode cX8_get 30 = .ok (.aload_n 3, 1) := by decide +kernel
theorem dX8_get_31 : decode cX8_get 31 = .ok (.getfield 288, 3) := by decide +kernel
theorem dX8_get_34 : decode cX8_get 34 = .ok (.iload_n 2, 1) := by decide +kernel
theorem dX8_get_35 : decode cX8_get 35 = .ok (.iaload, 1) := by decide +kernel
theorem dX8_get_36 : decode cX8_get 36 = .ok (.i2l, 1) := by decide +kernel
theorem dX8_get_37 : decode cX8_get 37 = .ok (.lreturn, 1) := by decide +kernel
set_option maxRecDepth 20000 in
theorem ggX8_judge_X8_holderAt : GoodIn wsX8_judge wsX8_holderAt := goodIn_r _ [7, 8, 38, 39, 40, 41, 42, 43, 44, 45, 46] (by decide +kernel) (by decide +kernel)
set_option maxRecDepth 20000 in
theorem gX8_judge_X8_holderAt : GoodIn wsX8_judge (wsV RX8 252 RX8 yX8_holderAt wsX8_holderAt) := goodIn_app (goodIn_of _ (by decide +kernel)) ggX8_judge_X8_holderAt
set_option maxRecDepth 20000 in
theorem ggX8_judge_X8_refusalOf : GoodIn wsX8_judge wsX8_refusalOf := goodIn_r _ [11, 12, 52, 53, 54, 55, 56, 57] (by decide +kernel) (by decide +kernel)
set_option maxRecDepth 20000 in
theorem gX8_judge_X8_refusalOf : GoodIn wsX8_judge (va_wsS RX8 276 yX8_refusalOf wsX8_refusalOf) := goodIn_app (goodIn_of _ (by decide +kernel)) ggX8_judge_X8_refusalOf
set_option maxRecDepth 20000 in
theorem ggX8_judge_X2_firstUnlike : GoodIn wsX8_judge wsX2_firstUnlike := goodIn_r _ [17, 18, 19, 20, 21, 22, 23, 24, 25, 26, 27, 28, 29, 30, 31, 32, 33, 16, 34, 35, 36, 37, 52, 53, 54, 55, 56, 57] (by decide +kernel) (by decide +kernel)
set_option maxRecDepth 20000 in
theorem gX8_judge_X2_firstUnlike : GoodIn wsX8_judge (wsV RX8 292 RX2 yX2_firstUnlike wsX2_firstUnlike) := goodIn_app (goodIn_of _ (by decide +kernel)) ggX8_judge_X2_firstUnlike
theorem dX8_judge_0 : decode cX8_judge 0 = .ok (.aload_n 0, 1) := by decide +kernel
theorem dX8_judge_1 : decode cX8_judge 1 = .ok (.iload_n 1, 1) := by decide +kernel
theorem dX8_judge_2 : decode cX8_judge 2 = .ok (.invokevirtual 252, 3) := by decide +kernel
theorem dX8_judge_5 : decode cX8_judge 5 = .ok (.astore_n 2, 1) := by decide +kernel
theorem dX8_judge_6 : decode cX8_judge 6 = .ok (.aload_n 2, 1) := by decide +kernel
theorem dX8_judge_7 : decode cX8_judge 7 = .ok (.iconst 3, 1) := by decide +kernel
theorem dX8_judge_8 : decode cX8_judge 8 = .ok (.invokestatic 276, 3) := by decide +kernel
theorem dX8_judge_11 : decode cX8_judge 11 = .ok (.istore_n 3, 1) := by decide +kernel
theorem dX8_judge_12 : decode cX8_judge 12 = .ok (.aload_n 2, 1) := by decide +kernel
theorem dX8_judge_13 : decode cX8_judge 13 = .ok (.ifnull 7, 3) := by decide +kernel
theorem dX8_judge_16 : decode cX8_judge 16 = .ok (.iload_n 3, 1) := by decide +kernel
theorem dX8_judge_17 : decode cX8_judge 17 = .ok (.ifCond .eq 5, 3) := by decide +kernel
theorem dX8_judge_20 : decode cX8_judge 20 = .ok (.iload_n 3, 1) := by decide +kernel
theorem dX8_judge_21 : decode cX8_judge 21 = .ok (.ireturn, 1) := by decide +kernel
theorem dX8_judge_22 : decode cX8_judge 22 = .ok (.aload_n 2, 1) := by decide +kernel
theorem dX8_judge_23 : decode cX8_judge 23 = .ok (.aload_n 0, 1) := by decide +kernel
theorem dX8_judge_24 : decode cX8_judge 24 = .ok (.getfield 12, 3) := by decide +kernel
theorem dX8_judge_27 : decode cX8_judge 27 = .ok (.getfield 156, 3) := by decide +kernel
theorem dX8_judge_30 : decode cX8_judge 30 = .ok (.invokevirtual 292, 3) := by decide +kernel
theorem dX8_judge_33 : decode cX8_judge 33 = .ok (.istore 4, 2) := by decide +kernel
theorem dX8_judge_35 : decode cX8_judge 35 = .ok (.iload 4, 2) := by decide +kernel
theorem dX8_judge_37 : decode cX8_judge 37 = .ok (.iconst (-1), 1) := by decide +kernel
theorem dX8_judge_38 : decode cX8_judge 38 = .ok (.if_icmp .ne 8, 3) := by decide +kernel
theorem dX8_judge_41 : decode cX8_judge 41 = .ok (.bipush (-2), 2) := by decide +kernel
theorem dX8_judge_43 : decode cX8_judge 43 = .ok (.goto 5, 3) := by decide +kernel
theorem dX8_judge_46 : decode cX8_judge 46 = .ok (.iload 4, 2) := by decide +kernel
theorem dX8_judge_48 : decode cX8_judge 48 = .ok (.ireturn, 1) := by decide +kernel
set_option maxRecDepth 20000 in
theorem ggX8_image_X1_copyFrom : GoodIn wsX8_image wsX1_copyFrom := goodIn_r _ [9, 10, 11, 12, 13, 14, 24, 25, 26, 27, 28] (by decide +kernel) (by decide +kernel)
set_option maxRecDepth 20000 in
theorem gX8_image_X1_copyFrom : GoodIn wsX8_image (wsV RX8 295 RX1 yX1_copyFrom wsX1_copyFrom) := goodIn_app (goodIn_of _ (by decide +kernel)) ggX8_image_X1_copyFrom
theorem dX8_image_0 : decode cX8_image 0 = .ok (.aload_n 0, 1) := by decide +kernel
theorem dX8_image_1 : decode cX8_image 1 = .ok (.getfield 18, 3) := by decide +kernel
theorem dX8_image_4 : decode cX8_image 4 = .ok (.aload_n 0, 1) := by decide +kernel
theorem dX8_image_5 : decode cX8_image 5 = .ok (.getfield 12, 3) := by decide +kernel
theorem dX8_image_8 : decode cX8_image 8 = .ok (.invokevirtual 295, 3) := by decide +kernel
theorem dX8_image_11 : decode cX8_image 11 = .ok (.aload_n 0, 1) := by decide +kernel
theorem dX8_image_12 : decode cX8_image 12 = .ok (.iconst 1, 1) := by decide +kernel
theorem dX8_image_13 : decode cX8_image 13 = .ok (.putfield 298, 3) := by decide +kernel
theorem dX8_image_16 : decode cX8_image 16 = .ok (.aload_n 0, 1) := by decide +kernel
theorem dX8_image_17 : decode cX8_image 17 = .ok (.getfield 12, 3) := by decide +kernel
theorem dX8_image_20 : decode cX8_image 20 = .ok (.getfield 73, 3) := by decide +kernel
theorem dX8_image_23 : decode cX8_image 23 = .ok (.ireturn, 1) := by decide +kernel
set_option maxRecDepth 20000 in
theorem ggX8_restore_X1_copyFrom : GoodIn wsX8_restore wsX1_copyFrom := goodIn_r _ [10, 11, 12, 13, 14, 15, 34, 35, 36, 37, 38] (by decide +kernel) (by decide +kernel)
set_option maxRecDepth 20000 in
theorem gX8_restore_X1_copyFrom : GoodIn wsX8_restore (wsV RX8 295 RX1 yX1_copyFrom wsX1_copyFrom) := goodIn_app (goodIn_of _ (by decide +kernel)) ggX8_restore_X1_copyFrom
set_option maxRecDepth 20000 in
theorem ggX8_restore_X0_startAnew : GoodIn wsX8_restore wsX0_startAnew := goodIn_r _ [20, 21, 22, 23, 24, 7, 8, 9, 10, 11, 12, 13, 14, 15, 39, 40, 41, 34, 35, 36, 37, 38] (by decide +kernel) (by decide +kernel)
set_option maxRecDepth 20000 in
theorem gX8_restore_X0_startAnew : GoodIn wsX8_restore (wsV RX8 301 RX0 yX0_startAnew wsX0_startAnew) := goodIn_app (goodIn_of _ (by decide +kernel)) ggX8_restore_X0_startAnew
theorem dX8_restore_0 : decode cX8_restore 0 = .ok (.aload_n 0, 1) := by decide +kernel
theorem dX8_restore_1 : decode cX8_restore 1 = .ok (.getfield 298, 3) := by decide +kernel
theorem dX8_restore_4 : decode cX8_restore 4 = .ok (.ifCond .ne 6, 3) := by decide +kernel
theorem dX8_restore_7 : decode cX8_restore 7 = .ok (.bipush (-5), 2) := by decide +kernel
theorem dX8_restore_9 : decode cX8_restore 9 = .ok (.ireturn, 1) := by decide +kernel
theorem dX8_restore_10 : decode cX8_restore 10 = .ok (.aload_n 0, 1) := by decide +kernel
theorem dX8_restore_11 : decode cX8_restore 11 = .ok (.getfield 12, 3) := by decide +kernel
theorem dX8_restore_14 : decode cX8_restore 14 = .ok (.aload_n 0, 1) := by decide +kernel
theorem dX8_restore_15 : decode cX8_restore 15 = .ok (.getfield 18, 3) := by decide +kernel
theorem dX8_restore_18 : decode cX8_restore 18 = .ok (.invokevirtual 295, 3) := by decide +kernel
theorem dX8_restore_21 : decode cX8_restore 21 = .ok (.aload_n 0, 1) := by decide +kernel
theorem dX8_restore_22 : decode cX8_restore 22 = .ok (.getfield 24, 3) := by decide +kernel
theorem dX8_restore_25 : decode cX8_restore 25 = .ok (.aload_n 0, 1) := by decide +kernel
theorem dX8_restore_26 : decode cX8_restore 26 = .ok (.getfield 12, 3) := by decide +kernel
theorem dX8_restore_29 : decode cX8_restore 29 = .ok (.invokevirtual 301, 3) := by decide +kernel
theorem dX8_restore_32 : decode cX8_restore 32 = .ok (.aload_n 0, 1) := by decide +kernel
theorem dX8_restore_33 : decode cX8_restore 33 = .ok (.getfield 12, 3) := by decide +kernel
theorem dX8_restore_36 : decode cX8_restore 36 = .ok (.getfield 73, 3) := by decide +kernel
theorem dX8_restore_39 : decode cX8_restore 39 = .ok (.ireturn, 1) := by decide +kernel
set_option maxRecDepth 20000 in
theorem ggX8_count_X6_sizeOf : GoodIn wsX8_count wsX6_sizeOf := goodIn_r _ [12, 13, 14, 15, 16, 17, 18, 19] (by decide +kernel) (by decide +kernel)
set_option maxRecDepth 20000 in
theorem gX8_count_X6_sizeOf : GoodIn wsX8_count (va_wsS RX8 172 yX6_sizeOf wsX6_sizeOf) := goodIn_app (goodIn_of _ (by decide +kernel)) ggX8_count_X6_sizeOf
set_option maxRecDepth 20000 in
theorem ggX8_count_X0_undoable : GoodIn wsX8_count wsX0_undoable := goodIn_r _ [24, 25, 47, 48, 49] (by decide +kernel) (by decide +kernel)
set_option maxRecDepth 20000 in
theorem gX8_count_X0_undoable : GoodIn wsX8_count (wsV RX8 216 RX0 yX0_undoable wsX0_undoable) := goodIn_app (goodIn_of _ (by decide +kernel)) ggX8_count_X0_undoable
set_option maxRecDepth 20000 in
theorem ggX8_count_X0_repeatable : GoodIn wsX8_count wsX0_repeatable := goodIn_r _ [29, 30, 25, 47, 48, 49] (by decide +kernel) (by decide +kernel)
set_option maxRecDepth 20000 in
theorem gX8_count_X0_repeatable : GoodIn wsX8_count (wsV RX8 223 RX0 yX0_repeatable wsX0_repeatable) := goodIn_app (goodIn_of _ (by decide +kernel)) ggX8_count_X0_repeatable
theorem dX8_count_0 : decode cX8_count 0 = .ok (.iload_n 1, 1) := by decide +kernel
theorem dX8_count_1 : decode cX8_count 1 = .ok (.tableswitch 102 0 6 #[43, 51, 59, 67, 78, 86, 94], 43) := by decide +kernel
theorem dX8_count_44 : decode cX8_count 44 = .ok (.aload_n 0, 1) := by decide +kernel
theorem dX8_count_45 : decode cX8_count 45 = .ok (.getfield 12, 3) := by decide +kernel
theorem dX8_count_48 : decode cX8_count 48 = .ok (.getfield 61, 3) := by decide +kernel
theorem dX8_count_51 : decode cX8_count 51 = .ok (.ireturn, 1) := by decide +kernel
theorem dX8_count_52 : decode cX8_count 52 = .ok (.aload_n 0, 1) := by decide +kernel
theorem dX8_count_53 : decode cX8_count 53 = .ok (.getfield 12, 3) := by decide +kernel
theorem dX8_count_56 : decode cX8_count 56 = .ok (.getfield 73, 3) := by decide +kernel
theorem dX8_count_59 : decode cX8_count 59 = .ok (.ireturn, 1) := by decide +kernel
theorem dX8_count_60 : decode cX8_count 60 = .ok (.aload_n 0, 1) := by decide +kernel
theorem dX8_count_61 : decode cX8_count 61 = .ok (.getfield 12, 3) := by decide +kernel
theorem dX8_count_64 : decode cX8_count 64 = .ok (.getfield 153, 3) := by decide +kernel
theorem dX8_count_67 : decode cX8_count 67 = .ok (.ireturn, 1) := by decide +kernel
theorem dX8_count_68 : decode cX8_count 68 = .ok (.aload_n 0, 1) := by decide +kernel
theorem dX8_count_69 : decode cX8_count 69 = .ok (.getfield 12, 3) := by decide +kernel
theorem dX8_count_72 : decode cX8_count 72 = .ok (.getfield 156, 3) := by decide +kernel
theorem dX8_count_75 : decode cX8_count 75 = .ok (.invokestatic 172, 3) := by decide +kernel
theorem dX8_count_78 : decode cX8_count 78 = .ok (.ireturn, 1) := by decide +kernel
theorem dX8_count_79 : decode cX8_count 79 = .ok (.aload_n 0, 1) := by decide +kernel
theorem dX8_count_80 : decode cX8_count 80 = .ok (.getfield 24, 3) := by decide +kernel
theorem dX8_count_83 : decode cX8_count 83 = .ok (.invokevirtual 216, 3) := by decide +kernel
theorem dX8_count_86 : decode cX8_count 86 = .ok (.ireturn, 1) := by decide +kernel
theorem dX8_count_87 : decode cX8_count 87 = .ok (.aload_n 0, 1) := by decide +kernel
theorem dX8_count_88 : decode cX8_count 88 = .ok (.getfield 24, 3) := by decide +kernel
theorem dX8_count_91 : decode cX8_count 91 = .ok (.invokevirtual 223, 3) := by decide +kernel
theorem dX8_count_94 : decode cX8_count 94 = .ok (.ireturn, 1) := by decide +kernel
theorem dX8_count_95 : decode cX8_count 95 = .ok (.aload_n 0, 1) := by decide +kernel
theorem dX8_count_96 : decode cX8_count 96 = .ok (.getfield 46, 3) := by decide +kernel
theorem dX8_count_99 : decode cX8_count 99 = .ok (.getfield 229, 3) := by decide +kernel
theorem dX8_count_102 : decode cX8_count 102 = .ok (.ireturn, 1) := by decide +kernel
theorem dX8_count_103 : decode cX8_count 103 = .ok (.iconst (-1), 1) := by decide +kernel
theorem dX8_count_104 : decode cX8_count 104 = .ok (.ireturn, 1) := by decide +kernel
theorem dX8_isPower_0 : decode cX8_isPower 0 = .ok (.iload_n 0, 1) := by decide +kernel
theorem dX8_isPower_1 : decode cX8_isPower 1 = .ok (.ifCond .lt 13, 3) := by decide +kernel
theorem dX8_isPower_4 : decode cX8_isPower 4 = .ok (.iload_n 0, 1) := by decide +kernel
theorem dX8_isPower_5 : decode cX8_isPower 5 = .ok (.bipush 12, 2) := by decide +kernel
theorem dX8_isPower_7 : decode cX8_isPower 7 = .ok (.if_icmp .gt 7, 3) := by decide +kernel
theorem dX8_isPower_10 : decode cX8_isPower 10 = .ok (.iconst 1, 1) := by decide +kernel
theorem dX8_isPower_11 : decode cX8_isPower 11 = .ok (.goto 4, 3) := by decide +kernel
theorem dX8_isPower_14 : decode cX8_isPower 14 = .ok (.iconst 0, 1) := by decide +kernel
theorem dX8_isPower_15 : decode cX8_isPower 15 = .ok (.ireturn, 1) := by decide +kernel
theorem dX8_isPart_0 : decode cX8_isPart 0 = .ok (.iload_n 0, 1) := by decide +kernel
theorem dX8_isPart_1 : decode cX8_isPart 1 = .ok (.ifCond .eq 8, 3) := by decide +kernel
theorem dX8_isPart_4 : decode cX8_isPart 4 = .ok (.iload_n 0, 1) := by decide +kernel
theorem dX8_isPart_5 : decode cX8_isPart 5 = .ok (.iconst 1, 1) := by decide +kernel
theorem dX8_isPart_6 : decode cX8_isPart 6 = .ok (.if_icmp .ne 7, 3) := by decide +kernel
theorem dX8_isPart_9 : decode cX8_isPart 9 = .ok (.iconst 1, 1) := by decide +kernel
theorem dX8_isPart_10 : decode cX8_isPart 10 = .ok (.goto 4, 3) := by decide +kernel
theorem dX8_isPart_13 : decode cX8_isPart 13 = .ok (.iconst 0, 1) := by decide +kernel
theorem dX8_isPart_14 : decode cX8_isPart 14 = .ok (.ireturn, 1) := by decide +kernel
theorem dX8_isKappa_0 : decode cX8_isKappa 0 = .ok (.iload_n 0, 1) := by decide +kernel
theorem dX8_isKappa_1 : decode cX8_isKappa 1 = .ok (.iconst (-1), 1) := by decide +kernel
theorem dX8_isKappa_2 : decode cX8_isKappa 2 = .ok (.if_icmp .lt 13, 3) := by decide +kernel
theorem dX8_isKappa_5 : decode cX8_isKappa 5 = .ok (.iload_n 0, 1) := by decide +kernel
theorem dX8_isKappa_6 : decode cX8_isKappa 6 = .ok (.bipush 9, 2) := by decide +kernel
theorem dX8_isKappa_8 : decode cX8_isKappa 8 = .ok (.if_icmp .gt 7, 3) := by decide +kernel
theorem dX8_isKappa_11 : decode cX8_isKappa 11 = .ok (.iconst 1, 1) := by decide +kernel
theorem dX8_isKappa_12 : decode cX8_isKappa 12 = .ok (.goto 4, 3) := by decide +kernel
theorem dX8_isKappa_15 : decode cX8_isKappa 15 = .ok (.iconst 0, 1) := by decide +kernel
theorem dX8_isKappa_16 : decode cX8_isKappa 16 = .ok (.ireturn, 1) := by decide +kernel
theorem dX8_isSplitCount_0 : decode cX8_isSplitCount 0 = .ok (.iload_n 0, 1) := by decide +kernel
theorem dX8_isSplitCount_1 : decode cX8_isSplitCount 1 = .ok (.ifCond .lt 13, 3) := by decide +kernel
theorem dX8_isSplitCount_4 : decode cX8_isSplitCount 4 = .ok (.iload_n 0, 1) := by decide +kernel
theorem dX8_isSplitCount_5 : decode cX8_isSplitCount 5 = .ok (.bipush 9, 2) := by decide +kernel
theorem dX8_isSplitCount_7 : decode cX8_isSplitCount 7 = .ok (.if_icmp .gt 7, 3) := by decide +kernel
theorem dX8_isSplitCount_10 : decode cX8_isSplitCount 10 = .ok (.iconst 1, 1) := by decide +kernel
theorem dX8_isSplitCount_11 : decode cX8_isSplitCount 11 = .ok (.goto 4, 3) := by decide +kernel
theorem dX8_isSplitCount_14 : decode cX8_isSplitCount 14 = .ok (.iconst 0, 1) := by decide +kernel
theorem dX8_isSplitCount_15 : decode cX8_isSplitCount 15 = .ok (.ireturn, 1) := by decide +kernel
theorem dX8_holderAt_0 : decode cX8_holderAt 0 = .ok (.iload_n 1, 1) := by decide +kernel
theorem dX8_holderAt_1 : decode cX8_holderAt 1 = .ok (.ifCond .lt 18, 3) := by decide +kernel
theorem dX8_holderAt_4 : decode cX8_holderAt 4 = .ok (.iload_n 1, 1) := by decide +kernel
theorem dX8_holderAt_5 : decode cX8_holderAt 5 = .ok (.bipush 6, 2) := by decide +kernel
theorem dX8_holderAt_7 : decode cX8_holderAt 7 = .ok (.if_icmp .ge 12, 3) := by decide +kernel
theorem dX8_holderAt_10 : decode cX8_holderAt 10 = .ok (.aload_n 0, 1) := by decide +kernel
theorem dX8_holderAt_11 : decode cX8_holderAt 11 = .ok (.getfield 56, 3) := by decide +kernel
theorem dX8_holderAt_14 : decode cX8_holderAt 14 = .ok (.iload_n 1, 1) := by decide +kernel
theorem dX8_holderAt_15 : decode cX8_holderAt 15 = .ok (.aaload, 1) := by decide +kernel
theorem dX8_holderAt_16 : decode cX8_holderAt 16 = .ok (.goto 4, 3) := by decide +kernel
theorem dX8_holderAt_19 : decode cX8_holderAt 19 = .ok (.aconst_null, 1) := by decide +kernel
theorem dX8_holderAt_20 : decode cX8_holderAt 20 = .ok (.areturn, 1) := by decide +kernel
theorem dX8_refusalOf_0 : decode cX8_refusalOf 0 = .ok (.aload_n 0, 1) := by decide +kernel
theorem dX8_refusalOf_1 : decode cX8_refusalOf 1 = .ok (.ifnonnull 5, 3) := by decide +kernel
theorem dX8_refusalOf_4 : decode cX8_refusalOf 4 = .ok (.iconst (-1), 1) := by decide +kernel
theorem dX8_refusalOf_5 : decode cX8_refusalOf 5 = .ok (.ireturn, 1) := by decide +kernel
theorem dX8_refusalOf_6 : decode cX8_refusalOf 6 = .ok (.aload_n 0, 1) := by decide +kernel
theorem dX8_refusalOf_7 : decode cX8_refusalOf 7 = .ok (.getfield 267, 3) := by decide +kernel
theorem dX8_refusalOf_10 : decode cX8_refusalOf 10 = .ok (.ifCond .ne 6, 3) := by decide +kernel
theorem dX8_refusalOf_13 : decode cX8_refusalOf 13 = .ok (.bipush (-11), 2) := by decide +kernel
theorem dX8_refusalOf_15 : decode cX8_refusalOf 15 = .ok (.ireturn, 1) := by decide +kernel
theorem dX8_refusalOf_16 : decode cX8_refusalOf 16 = .ok (.aload_n 0, 1) := by decide +kernel
theorem dX8_refusalOf_17 : decode cX8_refusalOf 17 = .ok (.getfield 267, 3) := by decide +kernel
theorem dX8_refusalOf_20 : decode cX8_refusalOf 20 = .ok (.iload_n 1, 1) := by decide +kernel
theorem dX8_refusalOf_21 : decode cX8_refusalOf 21 = .ok (.if_icmp .ne 7, 3) := by decide +kernel
theorem dX8_refusalOf_24 : decode cX8_refusalOf 24 = .ok (.iconst 0, 1) := by decide +kernel
theorem dX8_refusalOf_25 : decode cX8_refusalOf 25 = .ok (.goto 5, 3) := by decide +kernel
theorem dX8_refusalOf_28 : decode cX8_refusalOf 28 = .ok (.bipush (-12), 2) := by decide +kernel
theorem dX8_refusalOf_30 : decode cX8_refusalOf 30 = .ok (.ireturn, 1) := by decide +kernel
set_option maxRecDepth 20000 in
theorem ggX8_keyWith_X3_begin : GoodIn wsX8_keyWith wsX3_begin := goodIn_r _ [9, 10, 11, 12, 41, 42, 43, 44, 45, 46, 47] (by decide +kernel) (by decide +kernel)
set_option maxRecDepth 20000 in
theorem gX8_keyWith_X3_begin : GoodIn wsX8_keyWith (wsV RX8 304 RX3 yX3_begin wsX3_begin) := goodIn_app (goodIn_of _ (by decide +kernel)) ggX8_keyWith_X3_begin
set_option maxRecDepth 20000 in
theorem ggX8_keyWith_X1_powerAt : GoodIn wsX8_keyWith wsX1_powerAt := goodIn_r _ [17, 18, 36, 37, 38, 39, 40] (by decide +kernel) (by decide +kernel)
set_option maxRecDepth 20000 in
theorem gX8_keyWith_X1_powerAt : GoodIn wsX8_keyWith (wsV RX8 86 RX1 yX1_powerAt wsX1_powerAt) := goodIn_app (goodIn_of _ (by decide +kernel)) ggX8_keyWith_X1_powerAt
set_option maxRecDepth 20000 in
theorem ggX8_keyWith_X3_add : GoodIn wsX8_keyWith wsX3_add := goodIn_r _ [22, 10, 11, 12, 41, 42, 43, 44, 45, 46, 47] (by decide +kernel) (by decide +kernel)
set_option maxRecDepth 20000 in
theorem gX8_keyWith_X3_add : GoodIn wsX8_keyWith (wsV RX8 307 RX3 yX3_add wsX3_add) := goodIn_app (goodIn_of _ (by decide +kernel)) ggX8_keyWith_X3_add
set_option maxRecDepth 20000 in
theorem ggX8_keyWith_X3_keyFor : GoodIn wsX8_keyWith wsX3_keyFor := goodIn_r _ [26, 10, 11, 12, 41, 42, 43, 44, 45, 46, 47] (by decide +kernel) (by decide +kernel)
set_option maxRecDepth 20000 in
theorem gX8_keyWith_X3_keyFor : GoodIn wsX8_keyWith (wsV RX8 308 RX3 yX3_keyFor wsX3_keyFor) := goodIn_app (goodIn_of _ (by decide +kernel)) ggX8_keyWith_X3_keyFor
theorem dX8_keyWith_0 : decode cX8_keyWith 0 = .ok (.aload_n 0, 1) := by decide +kernel
theorem dX8_keyWith_1 : decode cX8_keyWith 1 = .ok (.getfield 31, 3) := by decide +kernel
theorem dX8_keyWith_4 : decode cX8_keyWith 4 = .ok (.invokevirtual 304, 3) := by decide +kernel
theorem dX8_keyWith_7 : decode cX8_keyWith 7 = .ok (.iconst 0, 1) := by decide +kernel
theorem dX8_keyWith_8 : decode cX8_keyWith 8 = .ok (.istore 4, 2) := by decide +kernel
theorem dX8_keyWith_10 : decode cX8_keyWith 10 = .ok (.iload 4, 2) := by decide +kernel
theorem dX8_keyWith_12 : decode cX8_keyWith 12 = .ok (.aload_n 0, 1) := by decide +kernel
theorem dX8_keyWith_13 : decode cX8_keyWith 13 = .ok (.getfield 12, 3) := by decide +kernel
theorem dX8_keyWith_16 : decode cX8_keyWith 16 = .ok (.getfield 73, 3) := by decide +kernel
theorem dX8_keyWith_19 : decode cX8_keyWith 19 = .ok (.if_icmp .ge 25, 3) := by decide +kernel
theorem dX8_keyWith_22 : decode cX8_keyWith 22 = .ok (.aload_n 0, 1) := by decide +kernel
theorem dX8_keyWith_23 : decode cX8_keyWith 23 = .ok (.getfield 31, 3) := by decide +kernel
theorem dX8_keyWith_26 : decode cX8_keyWith 26 = .ok (.aload_n 0, 1) := by decide +kernel
theorem dX8_keyWith_27 : decode cX8_keyWith 27 = .ok (.getfield 12, 3) := by decide +kernel
theorem dX8_keyWith_30 : decode cX8_keyWith 30 = .ok (.iload 4, 2) := by decide +kernel
theorem dX8_keyWith_32 : decode cX8_keyWith 32 = .ok (.invokevirtual 86, 3) := by decide +kernel
theorem dX8_keyWith_35 : decode cX8_keyWith 35 = .ok (.invokevirtual 307, 3) := by decide +kernel
theorem dX8_keyWith_38 : decode cX8_keyWith 38 = .ok (.iinc 4 1, 3) := by decide +kernel
theorem dX8_keyWith_41 : decode cX8_keyWith 41 = .ok (.goto (-31), 3) := by decide +kernel
theorem dX8_keyWith_44 : decode cX8_keyWith 44 = .ok (.iload_n 1, 1) := by decide +kernel
theorem dX8_keyWith_45 : decode cX8_keyWith 45 = .ok (.iconst (-1), 1) := by decide +kernel
theorem dX8_keyWith_46 : decode cX8_keyWith 46 = .ok (.if_icmp .eq 13, 3) := by decide +kernel
theorem dX8_keyWith_49 : decode cX8_keyWith 49 = .ok (.aload_n 0, 1) := by decide +kernel
theorem dX8_keyWith_50 : decode cX8_keyWith 50 = .ok (.getfield 31, 3) := by decide +kernel
theorem dX8_keyWith_53 : decode cX8_keyWith 53 = .ok (.iload_n 1, 1) := by decide +kernel
theorem dX8_keyWith_54 : decode cX8_keyWith 54 = .ok (.iconst 1, 1) := by decide +kernel
theorem dX8_keyWith_55 : decode cX8_keyWith 55 = .ok (.iadd, 1) := by decide +kernel
theorem dX8_keyWith_56 : decode cX8_keyWith 56 = .ok (.invokevirtual 307, 3) := by decide +kernel
theorem dX8_keyWith_59 : decode cX8_keyWith 59 = .ok (.iload_n 2, 1) := by decide +kernel
theorem dX8_keyWith_60 : decode cX8_keyWith 60 = .ok (.iconst (-1), 1) := by decide +kernel
theorem dX8_keyWith_61 : decode cX8_keyWith 61 = .ok (.if_icmp .eq 13, 3) := by decide +kernel
theorem dX8_keyWith_64 : decode cX8_keyWith 64 = .ok (.aload_n 0, 1) := by decide +kernel
theorem dX8_keyWith_65 : decode cX8_keyWith 65 = .ok (.getfield 31, 3) := by decide +kernel
theorem dX8_keyWith_68 : decode cX8_keyWith 68 = .ok (.iload_n 2, 1) := by decide +kernel
theorem dX8_keyWith_69 : decode cX8_keyWith 69 = .ok (.iconst 1, 1) := by decide +kernel
theorem dX8_keyWith_70 : decode cX8_keyWith 70 = .ok (.iadd, 1) := by decide +kernel
theorem dX8_keyWith_71 : decode cX8_keyWith 71 = .ok (.invokevirtual 307, 3) := by decide +kernel
theorem dX8_keyWith_74 : decode cX8_keyWith 74 = .ok (.iload_n 3, 1) := by decide +kernel
theorem dX8_keyWith_75 : decode cX8_keyWith 75 = .ok (.iconst (-1), 1) := by decide +kernel
theorem dX8_keyWith_76 : decode cX8_keyWith 76 = .ok (.if_icmp .eq 13, 3) := by decide +kernel
theorem dX8_keyWith_79 : decode cX8_keyWith 79 = .ok (.aload_n 0, 1) := by decide +kernel
theorem dX8_keyWith_80 : decode cX8_keyWith 80 = .ok (.getfield 31, 3) := by decide +kernel
theorem dX8_keyWith_83 : decode cX8_keyWith 83 = .ok (.iload_n 3, 1) := by decide +kernel
theorem dX8_keyWith_84 : decode cX8_keyWith 84 = .ok (.iconst 1, 1) := by decide +kernel
theorem dX8_keyWith_85 : decode cX8_keyWith 85 = .ok (.iadd, 1) := by decide +kernel
theorem dX8_keyWith_86 : decode cX8_keyWith 86 = .ok (.invokevirtual 307, 3) := by decide +kernel
theorem dX8_keyWith_89 : decode cX8_keyWith 89 = .ok (.aload_n 0, 1) := by decide +kernel
theorem dX8_keyWith_90 : decode cX8_keyWith 90 = .ok (.getfield 31, 3) := by decide +kernel
theorem dX8_keyWith_93 : decode cX8_keyWith 93 = .ok (.aload_n 0, 1) := by decide +kernel
theorem dX8_keyWith_94 : decode cX8_keyWith 94 = .ok (.getfield 12, 3) := by decide +kernel
theorem dX8_keyWith_97 : decode cX8_keyWith 97 = .ok (.getfield 61, 3) := by decide +kernel
theorem dX8_keyWith_100 : decode cX8_keyWith 100 = .ok (.invokevirtual 308, 3) := by decide +kernel
theorem dX8_keyWith_103 : decode cX8_keyWith 103 = .ok (.lreturn, 1) := by decide +kernel
set_option maxRecDepth 20000 in
theorem ggX8_aboveWith_X8_keyWith : GoodIn wsX8_aboveWith wsX8_keyWith := goodIn_r _ [6, 1, 7, 8, 9, 10, 11, 12, 13, 14, 15, 16, 17, 18, 19, 20, 21, 22, 23, 24, 25, 26, 27, 28, 29, 30, 31, 76, 77, 78, 79, 80, 81, 82, 83, 84, 85, 86, 87, 88, 89, 90, 91, 92, 93, 94, 95, 96] (by decide +kernel) (by decide +kernel)
set_option maxRecDepth 20000 in
theorem gX8_aboveWith_X8_keyWith : GoodIn wsX8_aboveWith (wsV RX8 128 RX8 yX8_keyWith wsX8_keyWith) := goodIn_app (goodIn_of _ (by decide +kernel)) ggX8_aboveWith_X8_keyWith
set_option maxRecDepth 20000 in
theorem ggX8_aboveWith_X3_aboveOf : GoodIn wsX8_aboveWith wsX3_aboveOf := goodIn_r _ [35, 36, 37, 38, 13, 39, 40, 41, 42, 43, 44, 45, 46, 47, 48, 49, 50, 51, 52, 53, 54, 55, 56, 57, 58, 59, 60, 61, 62, 63, 64, 65, 66, 67, 68, 69, 70, 71, 72, 73, 74, 75, 90, 91, 92, 93, 94, 95, 96] (by decide +kernel) (by decide +kernel)
set_option maxRecDepth 20000 in
theorem gX8_aboveWith_X3_aboveOf : GoodIn wsX8_aboveWith (wsV RX8 311 RX3 yX3_aboveOf wsX3_aboveOf) := goodIn_app (goodIn_of _ (by decide +kernel)) ggX8_aboveWith_X3_aboveOf
theorem dX8_aboveWith_0 : decode cX8_aboveWith 0 = .ok (.aload_n 0, 1) := by decide +kernel
theorem dX8_aboveWith_1 : decode cX8_aboveWith 1 = .ok (.getfield 31, 3) := by decide +kernel
theorem dX8_aboveWith_4 : decode cX8_aboveWith 4 = .ok (.aload_n 0, 1) := by decide +kernel
theorem dX8_aboveWith_5 : decode cX8_aboveWith 5 = .ok (.iload_n 1, 1) := by decide +kernel
theorem dX8_aboveWith_6 : decode cX8_aboveWith 6 = .ok (.iload_n 2, 1) := by decide +kernel
theorem dX8_aboveWith_7 : decode cX8_aboveWith 7 = .ok (.iload_n 3, 1) := by decide +kernel
theorem dX8_aboveWith_8 : decode cX8_aboveWith 8 = .ok (.invokevirtual 128, 3) := by decide +kernel
theorem dX8_aboveWith_11 : decode cX8_aboveWith 11 = .ok (.invokevirtual 311, 3) := by decide +kernel
theorem dX8_aboveWith_14 : decode cX8_aboveWith 14 = .ok (.lreturn, 1) := by decide +kernel
set_option maxRecDepth 20000 in
theorem ggX8_kappaOfTwo_X8_aboveWith : GoodIn wsX8_kappaOfTwo wsX8_aboveWith := goodIn_r _ [5, 6, 7, 8, 9, 4, 10, 11, 12, 13, 14, 15, 16, 17, 18, 19, 20, 21, 22, 23, 24, 25, 26, 27, 28, 29, 30, 31, 32, 33, 34, 35, 36, 37, 38, 39, 40, 41, 42, 43, 44, 45, 46, 47, 48, 49, 50, 51, 52, 53, 54, 55, 56, 57, 58, 59, 60, 61, 62, 63, 64, 65, 66, 67, 68, 69, 70, 71, 72, 73, 74, 75, 76, 77, 78, 79, 80, 81, 82, 83, 84, 85, 86, 87, 88, 89, 90, 91, 92, 93, 94, 95, 96, 97, 98, 99, 100] (by decide +kernel) (by decide +kernel)
set_option maxRecDepth 20000 in
theorem gX8_kappaOfTwo_X8_aboveWith : GoodIn wsX8_kappaOfTwo (wsV RX8 116 RX8 yX8_aboveWith wsX8_aboveWith) := goodIn_app (goodIn_of _ (by decide +kernel)) ggX8_kappaOfTwo_X8_aboveWith
theorem dX8_kappaOfTwo_0 : decode cX8_kappaOfTwo 0 = .ok (.aload_n 0, 1) := by decide +kernel
theorem dX8_kappaOfTwo_1 : decode cX8_kappaOfTwo 1 = .ok (.iload_n 1, 1) := by decide +kernel
theorem dX8_kappaOfTwo_2 : decode cX8_kappaOfTwo 2 = .ok (.iload_n 2, 1) := by decide +kernel
theorem dX8_kappaOfTwo_3 : decode cX8_kappaOfTwo 3 = .ok (.iconst (-1), 1) := by decide +kernel
theorem dX8_kappaOfTwo_4 : decode cX8_kappaOfTwo 4 = .ok (.invokevirtual 116, 3) := by decide +kernel
theorem dX8_kappaOfTwo_7 : decode cX8_kappaOfTwo 7 = .ok (.aload_n 0, 1) := by decide +kernel
theorem dX8_kappaOfTwo_8 : decode cX8_kappaOfTwo 8 = .ok (.iload_n 1, 1) := by decide +kernel
theorem dX8_kappaOfTwo_9 : decode cX8_kappaOfTwo 9 = .ok (.iload_n 2, 1) := by decide +kernel
theorem dX8_kappaOfTwo_10 : decode cX8_kappaOfTwo 10 = .ok (.iadd, 1) := by decide +kernel
theorem dX8_kappaOfTwo_11 : decode cX8_kappaOfTwo 11 = .ok (.iconst (-1), 1) := by decide +kernel
theorem dX8_kappaOfTwo_12 : decode cX8_kappaOfTwo 12 = .ok (.iconst (-1), 1) := by decide +kernel
theorem dX8_kappaOfTwo_13 : decode cX8_kappaOfTwo 13 = .ok (.invokevirtual 116, 3) := by decide +kernel
theorem dX8_kappaOfTwo_16 : decode cX8_kappaOfTwo 16 = .ok (.lsub, 1) := by decide +kernel
theorem dX8_kappaOfTwo_17 : decode cX8_kappaOfTwo 17 = .ok (.lreturn, 1) := by decide +kernel
set_option maxRecDepth 20000 in
theorem ggX8_kappaOfThree_X8_aboveWith : GoodIn wsX8_kappaOfThree wsX8_aboveWith := goodIn_r _ [6, 7, 8, 9, 10, 5, 11, 12, 13, 14, 15, 16, 17, 18, 19, 20, 21, 22, 23, 24, 25, 26, 27, 28, 29, 30, 31, 32, 33, 34, 35, 36, 37, 38, 39, 40, 41, 42, 43, 44, 45, 46, 47, 48, 49, 50, 51, 52, 53, 54, 55, 56, 57, 58, 59, 60, 61, 62, 63, 64, 65, 66, 67, 68, 69, 70, 71, 72, 73, 74, 75, 76, 77, 78, 79, 80, 85, 86, 87, 88, 89, 90, 91, 92, 93, 94, 95, 96, 97, 98, 99, 100, 101, 102, 103, 104, 105] (by decide +kernel) (by decide +kernel)
set_option maxRecDepth 20000 in
theorem gX8_kappaOfThree_X8_aboveWith : GoodIn wsX8_kappaOfThree (wsV RX8 116 RX8 yX8_aboveWith wsX8_aboveWith) := goodIn_app (goodIn_of _ (by decide +kernel)) ggX8_kappaOfThree_X8_aboveWith
set_option maxRecDepth 20000 in
theorem ggX8_kappaOfThree_X8_kappaOfTwo : GoodIn wsX8_kappaOfThree wsX8_kappaOfTwo := goodIn_r _ [84, 2, 3, 4, 5, 6, 7, 8, 9, 10, 11, 12, 13, 14, 15, 16, 17, 18, 19, 20, 21, 22, 23, 24, 25, 26, 27, 28, 29, 30, 31, 32, 33, 34, 35, 36, 37, 38, 39, 40, 41, 42, 43, 44, 45, 46, 47, 48, 49, 50, 51, 52, 53, 54, 55, 56, 57, 58, 59, 60, 61, 62, 63, 64, 65, 66, 67, 68, 69, 70, 71, 72, 73, 74, 75, 76, 77, 78, 79, 80, 85, 86, 87, 88, 89, 90, 91, 92, 93, 94, 95, 96, 97, 98, 99, 100, 101, 102, 103, 104, 105] (by decide +kernel) (by decide +kernel)
set_option maxRecDepth 20000 in
theorem gX8_kappaOfThree_X8_kappaOfTwo : GoodIn wsX8_kappaOfThree (wsV RX8 144 RX8 yX8_kappaOfTwo wsX8_kappaOfTwo) := goodIn_app (goodIn_of _ (by decide +kernel)) ggX8_kappaOfThree_X8_kappaOfTwo
theorem dX8_kappaOfThree_0 : decode cX8_kappaOfThree 0 = .ok (.aload_n 0, 1) := by decide +kernel
theorem dX8_kappaOfThree_1 : decode cX8_kappaOfThree 1 = .ok (.iload_n 1, 1) := by decide +kernel
theorem dX8_kappaOfThree_2 : decode cX8_kappaOfThree 2 = .ok (.iload_n 2, 1) := by decide +kernel
theorem dX8_kappaOfThree_3 : decode cX8_kappaOfThree 3 = .ok (.iload_n 3, 1) := by decide +kernel
theorem dX8_kappaOfThree_4 : decode cX8_kappaOfThree 4 = .ok (.invokevirtual 116, 3) := by decide +kernel
theorem dX8_kappaOfThree_7 : decode cX8_kappaOfThree 7 = .ok (.aload_n 0, 1) := by decide +kernel
theorem dX8_kappaOfThree_8 : decode cX8_kappaOfThree 8 = .ok (.iload_n 1, 1) := by decide +kernel
theorem dX8_kappaOfThree_9 : decode cX8_kappaOfThree 9 = .ok (.iload_n 2, 1) := by decide +kernel
theorem dX8_kappaOfThree_10 : decode cX8_kappaOfThree 10 = .ok (.iadd, 1) := by decide +kernel
theorem dX8_kappaOfThree_11 : decode cX8_kappaOfThree 11 = .ok (.iload_n 3, 1) := by decide +kernel
theorem dX8_kappaOfThree_12 : decode cX8_kappaOfThree 12 = .ok (.invokevirtual 144, 3) := by decide +kernel
theorem dX8_kappaOfThree_15 : decode cX8_kappaOfThree 15 = .ok (.lsub, 1) := by decide +kernel
theorem dX8_kappaOfThree_16 : decode cX8_kappaOfThree 16 = .ok (.aload_n 0, 1) := by decide +kernel
theorem dX8_kappaOfThree_17 : decode cX8_kappaOfThree 17 = .ok (.iload_n 1, 1) := by decide +kernel
theorem dX8_kappaOfThree_18 : decode cX8_kappaOfThree 18 = .ok (.iload_n 3, 1) := by decide +kernel
theorem dX8_kappaOfThree_19 : decode cX8_kappaOfThree 19 = .ok (.iadd, 1) := by decide +kernel
theorem dX8_kappaOfThree_20 : decode cX8_kappaOfThree 20 = .ok (.iload_n 2, 1) := by decide +kernel
theorem dX8_kappaOfThree_21 : decode cX8_kappaOfThree 21 = .ok (.invokevirtual 144, 3) := by decide +kernel
theorem dX8_kappaOfThree_24 : decode cX8_kappaOfThree 24 = .ok (.lsub, 1) := by decide +kernel
theorem dX8_kappaOfThree_25 : decode cX8_kappaOfThree 25 = .ok (.aload_n 0, 1) := by decide +kernel
theorem dX8_kappaOfThree_26 : decode cX8_kappaOfThree 26 = .ok (.iload_n 2, 1) := by decide +kernel
theorem dX8_kappaOfThree_27 : decode cX8_kappaOfThree 27 = .ok (.iload_n 3, 1) := by decide +kernel
theorem dX8_kappaOfThree_28 : decode cX8_kappaOfThree 28 = .ok (.iadd, 1) := by decide +kernel
theorem dX8_kappaOfThree_29 : decode cX8_kappaOfThree 29 = .ok (.iload_n 1, 1) := by decide +kernel
theorem dX8_kappaOfThree_30 : decode cX8_kappaOfThree 30 = .ok (.invokevirtual 144, 3) := by decide +kernel
theorem dX8_kappaOfThree_33 : decode cX8_kappaOfThree 33 = .ok (.lsub, 1) := by decide +kernel
theorem dX8_kappaOfThree_34 : decode cX8_kappaOfThree 34 = .ok (.ldc2_w 315, 3) := by decide +kernel
theorem dX8_kappaOfThree_37 : decode cX8_kappaOfThree 37 = .ok (.aload_n 0, 1) := by decide +kernel
theorem dX8_kappaOfThree_38 : decode cX8_kappaOfThree 38 = .ok (.iload_n 1, 1) := by decide +kernel
theorem dX8_kappaOfThree_39 : decode cX8_kappaOfThree 39 = .ok (.iload_n 2, 1) := by decide +kernel
theorem dX8_kappaOfThree_40 : decode cX8_kappaOfThree 40 = .ok (.iadd, 1) := by decide +kernel
theorem dX8_kappaOfThree_41 : decode cX8_kappaOfThree 41 = .ok (.iload_n 3, 1) := by decide +kernel
theorem dX8_kappaOfThree_42 : decode cX8_kappaOfThree 42 = .ok (.iadd, 1) := by decide +kernel
theorem dX8_kappaOfThree_43 : decode cX8_kappaOfThree 43 = .ok (.iconst (-1), 1) := by decide +kernel
theorem dX8_kappaOfThree_44 : decode cX8_kappaOfThree 44 = .ok (.iconst (-1), 1) := by decide +kernel
theorem dX8_kappaOfThree_45 : decode cX8_kappaOfThree 45 = .ok (.invokevirtual 116, 3) := by decide +kernel
theorem dX8_kappaOfThree_48 : decode cX8_kappaOfThree 48 = .ok (.lmul, 1) := by decide +kernel
theorem dX8_kappaOfThree_49 : decode cX8_kappaOfThree 49 = .ok (.lsub, 1) := by decide +kernel
theorem dX8_kappaOfThree_50 : decode cX8_kappaOfThree 50 = .ok (.lreturn, 1) := by decide +kernel
set_option maxRecDepth 20000 in
theorem ggX8_partOf_X8_greatestDivisor : GoodIn wsX8_partOf wsX8_greatestDivisor := goodIn_r _ [9] (by decide +kernel) (by decide +kernel)
set_option maxRecDepth 20000 in
theorem gX8_partOf_X8_greatestDivisor : GoodIn wsX8_partOf (va_wsS RX8 322 yX8_greatestDivisor wsX8_greatestDivisor) := goodIn_app (goodIn_of _ (by decide +kernel)) ggX8_partOf_X8_greatestDivisor
theorem dX8_partOf_0 : decode cX8_partOf 0 = .ok (.lload_n 0, 1) := by decide +kernel
theorem dX8_partOf_1 : decode cX8_partOf 1 = .ok (.invokestatic 317, 3) := by decide +kernel
theorem dX8_partOf_4 : decode cX8_partOf 4 = .ok (.lload_n 2, 1) := by decide +kernel
theorem dX8_partOf_5 : decode cX8_partOf 5 = .ok (.invokestatic 322, 3) := by decide +kernel
theorem dX8_partOf_8 : decode cX8_partOf 8 = .ok (.lstore 5, 2) := by decide +kernel
theorem dX8_partOf_10 : decode cX8_partOf 10 = .ok (.lload 5, 2) := by decide +kernel
theorem dX8_partOf_12 : decode cX8_partOf 12 = .ok (.lconst 0, 1) := by decide +kernel
theorem dX8_partOf_13 : decode cX8_partOf 13 = .ok (.lcmp, 1) := by decide +kernel
theorem dX8_partOf_14 : decode cX8_partOf 14 = .ok (.ifCond .gt 7, 3) := by decide +kernel
theorem dX8_partOf_17 : decode cX8_partOf 17 = .ok (.ldc2_w 114, 3) := by decide +kernel
theorem dX8_partOf_20 : decode cX8_partOf 20 = .ok (.lreturn, 1) := by decide +kernel
theorem dX8_partOf_21 : decode cX8_partOf 21 = .ok (.iload 4, 2) := by decide +kernel
theorem dX8_partOf_23 : decode cX8_partOf 23 = .ok (.ifCond .ne 10, 3) := by decide +kernel
theorem dX8_partOf_26 : decode cX8_partOf 26 = .ok (.lload_n 0, 1) := by decide +kernel
theorem dX8_partOf_27 : decode cX8_partOf 27 = .ok (.lload 5, 2) := by decide +kernel
theorem dX8_partOf_29 : decode cX8_partOf 29 = .ok (.ldiv, 1) := by decide +kernel
theorem dX8_partOf_30 : decode cX8_partOf 30 = .ok (.goto 7, 3) := by decide +kernel
theorem dX8_partOf_33 : decode cX8_partOf 33 = .ok (.lload_n 2, 1) := by decide +kernel
theorem dX8_partOf_34 : decode cX8_partOf 34 = .ok (.lload 5, 2) := by decide +kernel
theorem dX8_partOf_36 : decode cX8_partOf 36 = .ok (.ldiv, 1) := by decide +kernel
theorem dX8_partOf_37 : decode cX8_partOf 37 = .ok (.lreturn, 1) := by decide +kernel
theorem dX8_greatestDivisor_0 : decode cX8_greatestDivisor 0 = .ok (.lload_n 0, 1) := by decide +kernel
theorem dX8_greatestDivisor_1 : decode cX8_greatestDivisor 1 = .ok (.lstore 4, 2) := by decide +kernel
theorem dX8_greatestDivisor_3 : decode cX8_greatestDivisor 3 = .ok (.lload_n 2, 1) := by decide +kernel
theorem dX8_greatestDivisor_4 : decode cX8_greatestDivisor 4 = .ok (.lstore 6, 2) := by decide +kernel
theorem dX8_greatestDivisor_6 : decode cX8_greatestDivisor 6 = .ok (.iconst 0, 1) := by decide +kernel
theorem dX8_greatestDivisor_7 : decode cX8_greatestDivisor 7 = .ok (.istore 8, 2) := by decide +kernel
theorem dX8_greatestDivisor_9 : decode cX8_greatestDivisor 9 = .ok (.iload 8, 2) := by decide +kernel
theorem dX8_greatestDivisor_11 : decode cX8_greatestDivisor 11 = .ok (.sipush 200, 3) := by decide +kernel
theorem dX8_greatestDivisor_14 : decode cX8_greatestDivisor 14 = .ok (.if_icmp .ge 31, 3) := by decide +kernel
theorem dX8_greatestDivisor_17 : decode cX8_greatestDivisor 17 = .ok (.lload 6, 2) := by decide +kernel
theorem dX8_greatestDivisor_19 : decode cX8_greatestDivisor 19 = .ok (.lconst 0, 1) := by decide +kernel
theorem dX8_greatestDivisor_20 : decode cX8_greatestDivisor 20 = .ok (.lcmp, 1) := by decide +kernel
theorem dX8_greatestDivisor_21 : decode cX8_greatestDivisor 21 = .ok (.ifCond .eq 24, 3) := by decide +kernel
theorem dX8_greatestDivisor_24 : decode cX8_greatestDivisor 24 = .ok (.lload 4, 2) := by decide +kernel
theorem dX8_greatestDivisor_26 : decode cX8_greatestDivisor 26 = .ok (.lload 6, 2) := by decide +kernel
theorem dX8_greatestDivisor_28 : decode cX8_greatestDivisor 28 = .ok (.lrem, 1) := by decide +kernel
theorem dX8_greatestDivisor_29 : decode cX8_greatestDivisor 29 = .ok (.lstore 9, 2) := by decide +kernel
theorem dX8_greatestDivisor_31 : decode cX8_greatestDivisor 31 = .ok (.lload 6, 2) := by decide +kernel
theorem dX8_greatestDivisor_33 : decode cX8_greatestDivisor 33 = .ok (.lstore 4, 2) := by decide +kernel
theorem dX8_greatestDivisor_35 : decode cX8_greatestDivisor 35 = .ok (.lload 9, 2) := by decide +kernel
theorem dX8_greatestDivisor_37 : decode cX8_greatestDivisor 37 = .ok (.lstore 6, 2) := by decide +kernel
theorem dX8_greatestDivisor_39 : decode cX8_greatestDivisor 39 = .ok (.iinc 8 1, 3) := by decide +kernel
theorem dX8_greatestDivisor_42 : decode cX8_greatestDivisor 42 = .ok (.goto (-33), 3) := by decide +kernel
theorem dX8_greatestDivisor_45 : decode cX8_greatestDivisor 45 = .ok (.lload 4, 2) := by decide +kernel
theorem dX8_greatestDivisor_47 : decode cX8_greatestDivisor 47 = .ok (.lreturn, 1) := by decide +kernel
set_option maxRecDepth 20000 in
theorem ggX8_numberOfNode_X6_under : GoodIn wsX8_numberOfNode wsX6_under := goodIn_r _ [9] (by decide +kernel) (by decide +kernel)
set_option maxRecDepth 20000 in
theorem gX8_numberOfNode_X6_under : GoodIn wsX8_numberOfNode (va_wsS RX8 185 yX6_under wsX6_under) := goodIn_app (goodIn_of _ (by decide +kernel)) ggX8_numberOfNode_X6_under
set_option maxRecDepth 20000 in
theorem ggX8_numberOfNode_X6_leavesAt : GoodIn wsX8_numberOfNode wsX6_leavesAt := goodIn_r _ [12, 13, 14, 8, 15, 16, 17, 18, 19, 20, 21, 22, 23, 24, 25, 26, 27, 28, 29, 30, 31, 32, 33, 34] (by decide +kernel) (by decide +kernel)
set_option maxRecDepth 20000 in
theorem gX8_numberOfNode_X6_leavesAt : GoodIn wsX8_numberOfNode (va_wsS RX8 189 yX6_leavesAt wsX6_leavesAt) := goodIn_app (goodIn_of _ (by decide +kernel)) ggX8_numberOfNode_X6_leavesAt
set_option maxRecDepth 20000 in
theorem ggX8_numberOfNode_X6_edgesDown : GoodIn wsX8_numberOfNode wsX6_edgesDown := goodIn_r _ [37, 13, 14, 8, 15, 16, 17, 18, 19, 20, 21, 22, 23, 24, 25, 26, 27, 28, 29, 30, 31, 32, 33, 34, 38, 39, 40] (by decide +kernel) (by decide +kernel)
set_option maxRecDepth 20000 in
theorem gX8_numberOfNode_X6_edgesDown : GoodIn wsX8_numberOfNode (va_wsS RX8 197 yX6_edgesDown wsX6_edgesDown) := goodIn_app (goodIn_of _ (by decide +kernel)) ggX8_numberOfNode_X6_edgesDown
set_option maxRecDepth 20000 in
theorem ggX8_numberOfNode_X3_begin : GoodIn wsX8_numberOfNode wsX3_begin := goodIn_r _ [45, 46, 47, 48, 121, 122, 123, 124, 125, 126, 127] (by decide +kernel) (by decide +kernel)
set_option maxRecDepth 20000 in
theorem gX8_numberOfNode_X3_begin : GoodIn wsX8_numberOfNode (wsV RX8 304 RX3 yX3_begin wsX3_begin) := goodIn_app (goodIn_of _ (by decide +kernel)) ggX8_numberOfNode_X3_begin
set_option maxRecDepth 20000 in
theorem ggX8_numberOfNode_X1_powerAt : GoodIn wsX8_numberOfNode wsX1_powerAt := goodIn_r _ [53, 54, 116, 117, 118, 119, 120] (by decide +kernel) (by decide +kernel)
set_option maxRecDepth 20000 in
theorem gX8_numberOfNode_X1_powerAt : GoodIn wsX8_numberOfNode (wsV RX8 86 RX1 yX1_powerAt wsX1_powerAt) := goodIn_app (goodIn_of _ (by decide +kernel)) ggX8_numberOfNode_X1_powerAt
set_option maxRecDepth 20000 in
theorem ggX8_numberOfNode_X3_add : GoodIn wsX8_numberOfNode wsX3_add := goodIn_r _ [58, 46, 47, 48, 121, 122, 123, 124, 125, 126, 127] (by decide +kernel) (by decide +kernel)
set_option maxRecDepth 20000 in
theorem gX8_numberOfNode_X3_add : GoodIn wsX8_numberOfNode (wsV RX8 307 RX3 yX3_add wsX3_add) := goodIn_app (goodIn_of _ (by decide +kernel)) ggX8_numberOfNode_X3_add
set_option maxRecDepth 20000 in
theorem ggX8_numberOfNode_X3_keyFor : GoodIn wsX8_numberOfNode wsX3_keyFor := goodIn_r _ [62, 46, 47, 48, 121, 122, 123, 124, 125, 126, 127] (by decide +kernel) (by decide +kernel)
set_option maxRecDepth 20000 in
theorem gX8_numberOfNode_X3_keyFor : GoodIn wsX8_numberOfNode (wsV RX8 308 RX3 yX3_keyFor wsX3_keyFor) := goodIn_app (goodIn_of _ (by decide +kernel)) ggX8_numberOfNode_X3_keyFor
set_option maxRecDepth 20000 in
theorem ggX8_numberOfNode_X3_aboveOf : GoodIn wsX8_numberOfNode wsX3_aboveOf := goodIn_r _ [66, 67, 68, 69, 44, 70, 71, 72, 73, 74, 75, 76, 77, 78, 79, 80, 81, 82, 83, 84, 85, 86, 87, 88, 89, 90, 91, 92, 93, 94, 95, 96, 97, 98, 99, 100, 101, 102, 103, 104, 105, 106, 121, 122, 123, 124, 125, 126, 127] (by decide +kernel) (by decide +kernel)
set_option maxRecDepth 20000 in
theorem gX8_numberOfNode_X3_aboveOf : GoodIn wsX8_numberOfNode (wsV RX8 311 RX3 yX3_aboveOf wsX3_aboveOf) := goodIn_app (goodIn_of _ (by decide +kernel)) ggX8_numberOfNode_X3_aboveOf
theorem dX8_numberOfNode_0 : decode cX8_numberOfNode 0 = .ok (.iload_n 1, 1) := by decide +kernel
theorem dX8_numberOfNode_1 : decode cX8_numberOfNode 1 = .ok (.aload_n 0, 1) := by decide +kernel
theorem dX8_numberOfNode_2 : decode cX8_numberOfNode 2 = .ok (.getfield 12, 3) := by decide +kernel
theorem dX8_numberOfNode_5 : decode cX8_numberOfNode 5 = .ok (.getfield 153, 3) := by decide +kernel
theorem dX8_numberOfNode_8 : decode cX8_numberOfNode 8 = .ok (.invokestatic 185, 3) := by decide +kernel
theorem dX8_numberOfNode_11 : decode cX8_numberOfNode 11 = .ok (.istore_n 2, 1) := by decide +kernel
theorem dX8_numberOfNode_12 : decode cX8_numberOfNode 12 = .ok (.aload_n 0, 1) := by decide +kernel
theorem dX8_numberOfNode_13 : decode cX8_numberOfNode 13 = .ok (.getfield 12, 3) := by decide +kernel
theorem dX8_numberOfNode_16 : decode cX8_numberOfNode 16 = .ok (.getfield 156, 3) := by decide +kernel
theorem dX8_numberOfNode_19 : decode cX8_numberOfNode 19 = .ok (.iload_n 2, 1) := by decide +kernel
theorem dX8_numberOfNode_20 : decode cX8_numberOfNode 20 = .ok (.invokestatic 189, 3) := by decide +kernel
theorem dX8_numberOfNode_23 : decode cX8_numberOfNode 23 = .ok (.istore_n 3, 1) := by decide +kernel
theorem dX8_numberOfNode_24 : decode cX8_numberOfNode 24 = .ok (.aload_n 0, 1) := by decide +kernel
theorem dX8_numberOfNode_25 : decode cX8_numberOfNode 25 = .ok (.getfield 12, 3) := by decide +kernel
theorem dX8_numberOfNode_28 : decode cX8_numberOfNode 28 = .ok (.getfield 156, 3) := by decide +kernel
theorem dX8_numberOfNode_31 : decode cX8_numberOfNode 31 = .ok (.iload_n 2, 1) := by decide +kernel
theorem dX8_numberOfNode_32 : decode cX8_numberOfNode 32 = .ok (.invokestatic 197, 3) := by decide +kernel
theorem dX8_numberOfNode_35 : decode cX8_numberOfNode 35 = .ok (.istore 4, 2) := by decide +kernel
theorem dX8_numberOfNode_37 : decode cX8_numberOfNode 37 = .ok (.iload_n 1, 1) := by decide +kernel
theorem dX8_numberOfNode_38 : decode cX8_numberOfNode 38 = .ok (.ifCond .ne 10, 3) := by decide +kernel
theorem dX8_numberOfNode_41 : decode cX8_numberOfNode 41 = .ok (.iload_n 3, 1) := by decide +kernel
theorem dX8_numberOfNode_42 : decode cX8_numberOfNode 42 = .ok (.iconst 1, 1) := by decide +kernel
theorem dX8_numberOfNode_43 : decode cX8_numberOfNode 43 = .ok (.ior, 1) := by decide +kernel
theorem dX8_numberOfNode_44 : decode cX8_numberOfNode 44 = .ok (.istore_n 3, 1) := by decide +kernel
theorem dX8_numberOfNode_45 : decode cX8_numberOfNode 45 = .ok (.goto 6, 3) := by decide +kernel
theorem dX8_numberOfNode_48 : decode cX8_numberOfNode 48 = .ok (.iinc 4 1, 3) := by decide +kernel
theorem dX8_numberOfNode_51 : decode cX8_numberOfNode 51 = .ok (.aload_n 0, 1) := by decide +kernel
theorem dX8_numberOfNode_52 : decode cX8_numberOfNode 52 = .ok (.getfield 31, 3) := by decide +kernel
theorem dX8_numberOfNode_55 : decode cX8_numberOfNode 55 = .ok (.invokevirtual 304, 3) := by decide +kernel
theorem dX8_numberOfNode_58 : decode cX8_numberOfNode 58 = .ok (.iconst 0, 1) := by decide +kernel
theorem dX8_numberOfNode_59 : decode cX8_numberOfNode 59 = .ok (.istore 5, 2) := by decide +kernel
theorem dX8_numberOfNode_61 : decode cX8_numberOfNode 61 = .ok (.iload 5, 2) := by decide +kernel
theorem dX8_numberOfNode_63 : decode cX8_numberOfNode 63 = .ok (.aload_n 0, 1) := by decide +kernel
theorem dX8_numberOfNode_64 : decode cX8_numberOfNode 64 = .ok (.getfield 12, 3) := by decide +kernel
theorem dX8_numberOfNode_67 : decode cX8_numberOfNode 67 = .ok (.getfield 73, 3) := by decide +kernel
theorem dX8_numberOfNode_70 : decode cX8_numberOfNode 70 = .ok (.if_icmp .ge 34, 3) := by decide +kernel
theorem dX8_numberOfNode_73 : decode cX8_numberOfNode 73 = .ok (.iload_n 3, 1) := by decide +kernel
theorem dX8_numberOfNode_74 : decode cX8_numberOfNode 74 = .ok (.iload 5, 2) := by decide +kernel
theorem dX8_numberOfNode_76 : decode cX8_numberOfNode 76 = .ok (.ishr, 1) := by decide +kernel
theorem dX8_numberOfNode_77 : decode cX8_numberOfNode 77 = .ok (.iconst 1, 1) := by decide +kernel
theorem dX8_numberOfNode_78 : decode cX8_numberOfNode 78 = .ok (.iand, 1) := by decide +kernel
theorem dX8_numberOfNode_79 : decode cX8_numberOfNode 79 = .ok (.ifCond .eq 19, 3) := by decide +kernel
theorem dX8_numberOfNode_82 : decode cX8_numberOfNode 82 = .ok (.aload_n 0, 1) := by decide +kernel
theorem dX8_numberOfNode_83 : decode cX8_numberOfNode 83 = .ok (.getfield 31, 3) := by decide +kernel
theorem dX8_numberOfNode_86 : decode cX8_numberOfNode 86 = .ok (.aload_n 0, 1) := by decide +kernel
theorem dX8_numberOfNode_87 : decode cX8_numberOfNode 87 = .ok (.getfield 12, 3) := by decide +kernel
theorem dX8_numberOfNode_90 : decode cX8_numberOfNode 90 = .ok (.iload 5, 2) := by decide +kernel
theorem dX8_numberOfNode_92 : decode cX8_numberOfNode 92 = .ok (.invokevirtual 86, 3) := by decide +kernel
theorem dX8_numberOfNode_95 : decode cX8_numberOfNode 95 = .ok (.invokevirtual 307, 3) := by decide +kernel
theorem dX8_numberOfNode_98 : decode cX8_numberOfNode 98 = .ok (.iinc 5 1, 3) := by decide +kernel
theorem dX8_numberOfNode_101 : decode cX8_numberOfNode 101 = .ok (.goto (-40), 3) := by decide +kernel
theorem dX8_numberOfNode_104 : decode cX8_numberOfNode 104 = .ok (.iconst 0, 1) := by decide +kernel
theorem dX8_numberOfNode_105 : decode cX8_numberOfNode 105 = .ok (.istore 5, 2) := by decide +kernel
theorem dX8_numberOfNode_107 : decode cX8_numberOfNode 107 = .ok (.iload 5, 2) := by decide +kernel
theorem dX8_numberOfNode_109 : decode cX8_numberOfNode 109 = .ok (.iload 4, 2) := by decide +kernel
theorem dX8_numberOfNode_111 : decode cX8_numberOfNode 111 = .ok (.if_icmp .ge 17, 3) := by decide +kernel
theorem dX8_numberOfNode_114 : decode cX8_numberOfNode 114 = .ok (.aload_n 0, 1) := by decide +kernel
theorem dX8_numberOfNode_115 : decode cX8_numberOfNode 115 = .ok (.getfield 31, 3) := by decide +kernel
theorem dX8_numberOfNode_118 : decode cX8_numberOfNode 118 = .ok (.iconst 0, 1) := by decide +kernel
theorem dX8_numberOfNode_119 : decode cX8_numberOfNode 119 = .ok (.invokevirtual 307, 3) := by decide +kernel
theorem dX8_numberOfNode_122 : decode cX8_numberOfNode 122 = .ok (.iinc 5 1, 3) := by decide +kernel
theorem dX8_numberOfNode_125 : decode cX8_numberOfNode 125 = .ok (.goto (-18), 3) := by decide +kernel
theorem dX8_numberOfNode_128 : decode cX8_numberOfNode 128 = .ok (.aload_n 0, 1) := by decide +kernel
theorem dX8_numberOfNode_129 : decode cX8_numberOfNode 129 = .ok (.getfield 31, 3) := by decide +kernel
theorem dX8_numberOfNode_132 : decode cX8_numberOfNode 132 = .ok (.aload_n 0, 1) := by decide +kernel
theorem dX8_numberOfNode_133 : decode cX8_numberOfNode 133 = .ok (.getfield 31, 3) := by decide +kernel
theorem dX8_numberOfNode_136 : decode cX8_numberOfNode 136 = .ok (.iconst 0, 1) := by decide +kernel
theorem dX8_numberOfNode_137 : decode cX8_numberOfNode 137 = .ok (.invokevirtual 308, 3) := by decide +kernel
theorem dX8_numberOfNode_140 : decode cX8_numberOfNode 140 = .ok (.invokevirtual 311, 3) := by decide +kernel
theorem dX8_numberOfNode_143 : decode cX8_numberOfNode 143 = .ok (.lreturn, 1) := by decide +kernel
theorem dX9_init_0 : decode cX9_init 0 = .ok (.aload_n 0, 1) := by decide +kernel
theorem dX9_init_1 : decode cX9_init 1 = .ok (.invokespecial 3, 3) := by decide +kernel
theorem dX9_init_4 : decode cX9_init 4 = .ok (.aload_n 0, 1) := by decide +kernel
theorem dX9_init_5 : decode cX9_init 5 = .ok (.bipush 8, 2) := by decide +kernel
theorem dX9_init_7 : decode cX9_init 7 = .ok (.newarray .int, 2) := by decide +kernel
theorem dX9_init_9 : decode cX9_init 9 = .ok (.putfield 11, 3) := by decide +kernel
theorem dX9_init_12 : decode cX9_init 12 = .ok (.aload_n 0, 1) := by decide +kernel
theorem dX9_init_13 : decode cX9_init 13 = .ok (.iconst 4, 1) := by decide +kernel
theorem dX9_init_14 : decode cX9_init 14 = .ok (.putfield 15, 3) := by decide +kernel
theorem dX9_init_17 : decode cX9_init 17 = .ok (.aload_n 0, 1) := by decide +kernel
theorem dX9_init_18 : decode cX9_init 18 = .ok (.iconst 3, 1) := by decide +kernel
theorem dX9_init_19 : decode cX9_init 19 = .ok (.newarray .int, 2) := by decide +kernel
theorem dX9_init_21 : decode cX9_init 21 = .ok (.putfield 19, 3) := by decide +kernel
theorem dX9_init_24 : decode cX9_init 24 = .ok (.aload_n 0, 1) := by decide +kernel
theorem dX9_init_25 : decode cX9_init 25 = .ok (.sipush 144, 3) := by decide +kernel
theorem dX9_init_28 : decode cX9_init 28 = .ok (.newarray .int, 2) := by decide +kernel
theorem dX9_init_30 : decode cX9_init 30 = .ok (.putfield 22, 3) := by decide +kernel
theorem dX9_init_33 : decode cX9_init 33 = .ok (.aload_n 0, 1) := by decide +kernel
theorem dX9_init_34 : decode cX9_init 34 = .ok (.sipush 144, 3) := by decide +kernel
theorem dX9_init_37 : decode cX9_init 37 = .ok (.newarray .int, 2) := by decide +kernel
theorem dX9_init_39 : decode cX9_init 39 = .ok (.putfield 25, 3) := by decide +kernel
theorem dX9_init_42 : decode cX9_init 42 = .ok (.aload_n 0, 1) := by decide +kernel
theorem dX9_init_43 : decode cX9_init 43 = .ok (.bipush 16, 2) := by decide +kernel
theorem dX9_init_45 : decode cX9_init 45 = .ok (.newarray .int, 2) := by decide +kernel
theorem dX9_init_47 : decode cX9_init 47 = .ok (.putfield 28, 3) := by decide +kernel
theorem dX9_init_50 : decode cX9_init 50 = .ok (.aload_n 0, 1) := by decide +kernel
theorem dX9_init_51 : decode cX9_init 51 = .ok (.sipush 480, 3) := by decide +kernel
theorem dX9_init_54 : decode cX9_init 54 = .ok (.newarray .int, 2) := by decide +kernel
theorem dX9_init_56 : decode cX9_init 56 = .ok (.putfield 31, 3) := by decide +kernel
theorem dX9_init_59 : decode cX9_init 59 = .ok (.aload_n 0, 1) := by decide +kernel
theorem dX9_init_60 : decode cX9_init 60 = .ok (.ldc 34, 2) := by decide +kernel
theorem dX9_init_62 : decode cX9_init 62 = .ok (.newarray .int, 2) := by decide +kernel
theorem dX9_init_64 : decode cX9_init 64 = .ok (.putfield 35, 3) := by decide +kernel
theorem dX9_init_67 : decode cX9_init 67 = .ok (.aload_n 0, 1) := by decide +kernel
theorem dX9_init_68 : decode cX9_init 68 = .ok (.sipush 3000, 3) := by decide +kernel
theorem dX9_init_71 : decode cX9_init 71 = .ok (.newarray .int, 2) := by decide +kernel
theorem dX9_init_73 : decode cX9_init 73 = .ok (.putfield 38, 3) := by decide +kernel
theorem dX9_init_76 : decode cX9_init 76 = .ok (.aload_n 0, 1) := by decide +kernel
theorem dX9_init_77 : decode cX9_init 77 = .ok (.bipush 10, 2) := by decide +kernel
theorem dX9_init_79 : decode cX9_init 79 = .ok (.newarray .int, 2) := by decide +kernel
theorem dX9_init_81 : decode cX9_init 81 = .ok (.putfield 41, 3) := by decide +kernel
theorem dX9_init_84 : decode cX9_init 84 = .ok (.aload_n 0, 1) := by decide +kernel
theorem dX9_init_85 : decode cX9_init 85 = .ok (.bipush 60, 2) := by decide +kernel
theorem dX9_init_87 : decode cX9_init 87 = .ok (.newarray .int, 2) := by decide +kernel
theorem dX9_init_89 : decode cX9_init 89 = .ok (.putfield 44, 3) := by decide +kernel
theorem dX9_init_92 : decode cX9_init 92 = .ok (.aload_n 0, 1) := by decide +kernel
theorem dX9_init_93 : decode cX9_init 93 = .ok (.bipush 8, 2) := by decide +kernel
theorem dX9_init_95 : decode cX9_init 95 = .ok (.newarray .int, 2) := by decide +kernel
theorem dX9_init_97 : decode cX9_init 97 = .ok (.putfield 47, 3) := by decide +kernel
theorem dX9_init_100 : decode cX9_init 100 = .ok (.aload_n 0, 1) := by decide +kernel
theorem dX9_init_101 : decode cX9_init 101 = .ok (.bipush 8, 2) := by decide +kernel
theorem dX9_init_103 : decode cX9_init 103 = .ok (.newarray .int, 2) := by decide +kernel
theorem dX9_init_105 : decode cX9_init 105 = .ok (.putfield 50, 3) := by decide +kernel
theorem dX9_init_108 : decode cX9_init 108 = .ok (.aload_n 0, 1) := by decide +kernel
theorem dX9_init_109 : decode cX9_init 109 = .ok (.iconst 3, 1) := by decide +kernel
theorem dX9_init_110 : decode cX9_init 110 = .ok (.newarray .int, 2) := by decide +kernel
theorem dX9_init_112 : decode cX9_init 112 = .ok (.putfield 53, 3) := by decide +kernel
theorem dX9_init_115 : decode cX9_init 115 = .ok (.aload_n 0, 1) := by decide +kernel
theorem dX9_init_116 : decode cX9_init 116 = .ok (.iconst 3, 1) := by decide +kernel
theorem dX9_init_117 : decode cX9_init 117 = .ok (.newarray .int, 2) := by decide +kernel
theorem dX9_init_119 : decode cX9_init 119 = .ok (.putfield 56, 3) := by decide +kernel
theorem dX9_init_122 : decode cX9_init 122 = .ok (.aload_n 0, 1) := by decide +kernel
theorem dX9_init_123 : decode cX9_init 123 = .ok (.bipush 6, 2) := by decide +kernel
theorem dX9_init_125 : decode cX9_init 125 = .ok (.newarray .int, 2) := by decide +kernel
theorem dX9_init_127 : decode cX9_init 127 = .ok (.putfield 59, 3) := by decide +kernel
theorem dX9_init_130 : decode cX9_init 130 = .ok (.aload_n 0, 1) := by decide +kernel
theorem dX9_init_131 : decode cX9_init 131 = .ok (.bipush 80, 2) := by decide +kernel
theorem dX9_init_133 : decode cX9_init 133 = .ok (.newarray .int, 2) := by decide +kernel
theorem dX9_init_135 : decode cX9_init 135 = .ok (.putfield 62, 3) := by decide +kernel
theorem dX9_init_138 : decode cX9_init 138 = .ok (.aload_n 0, 1) := by decide +kernel
theorem dX9_init_139 : decode cX9_init 139 = .ok (.bipush 6, 2) := by decide +kernel
theorem dX9_init_141 : decode cX9_init 141 = .ok (.newarray .int, 2) := by decide +kernel
theorem dX9_init_143 : decode cX9_init 143 = .ok (.putfield 65, 3) := by decide +kernel
theorem dX9_init_146 : decode cX9_init 146 = .ok (.aload_n 0, 1) := by decide +kernel
theorem dX9_init_147 : decode cX9_init 147 = .ok (.bipush 6, 2) := by decide +kernel
theorem dX9_init_149 : decode cX9_init 149 = .ok (.newarray .long, 2) := by decide +kernel
theorem dX9_init_151 : decode cX9_init 151 = .ok (.putfield 68, 3) := by decide +kernel
theorem dX9_init_154 : decode cX9_init 154 = .ok (.aload_n 0, 1) := by decide +kernel
theorem dX9_init_155 : decode cX9_init 155 = .ok (.bipush 6, 2) := by decide +kernel
theorem dX9_init_157 : decode cX9_init 157 = .ok (.newarray .int, 2) := by decide +kernel
theorem dX9_init_159 : decode cX9_init 159 = .ok (.putfield 72, 3) := by decide +kernel
theorem dX9_init_162 : decode cX9_init 162 = .ok (.aload_n 0, 1) := by decide +kernel
theorem dX9_init_163 : decode cX9_init 163 = .ok (.bipush 6, 2) := by decide +kernel
theorem dX9_init_165 : decode cX9_init 165 = .ok (.newarray .int, 2) := by decide +kernel
theorem dX9_init_167 : decode cX9_init 167 = .ok (.putfield 75, 3) := by decide +kernel
theorem dX9_init_170 : decode cX9_init 170 = .ok (.aload_n 0, 1) := by decide +kernel
theorem dX9_init_171 : decode cX9_init 171 = .ok (.bipush 120, 2) := by decide +kernel
theorem dX9_init_173 : decode cX9_init 173 = .ok (.newarray .int, 2) := by decide +kernel
theorem dX9_init_175 : decode cX9_init 175 = .ok (.putfield 78, 3) := by decide +kernel
theorem dX9_init_178 : decode cX9_init 178 = .ok (.aload_n 0, 1) := by decide +kernel
theorem dX9_init_179 : decode cX9_init 179 = .ok (.bipush 16, 2) := by decide +kernel
theorem dX9_init_181 : decode cX9_init 181 = .ok (.newarray .int, 2) := by decide +kernel
theorem dX9_init_183 : decode cX9_init 183 = .ok (.putfield 81, 3) := by decide +kernel
theorem dX9_init_186 : decode cX9_init 186 = .ok (.return_, 1) := by decide +kernel
theorem dX9_in_0 : decode cX9_in 0 = .ok (.lload_n 0, 1) := by decide +kernel
theorem dX9_in_1 : decode cX9_in 1 = .ok (.lload_n 2, 1) := by decide +kernel
theorem dX9_in_2 : decode cX9_in 2 = .ok (.lcmp, 1) := by decide +kernel
theorem dX9_in_3 : decode cX9_in 3 = .ok (.ifCond .lt 14, 3) := by decide +kernel
theorem dX9_in_6 : decode cX9_in 6 = .ok (.lload_n 0, 1) := by decide +kernel
theorem dX9_in_7 : decode cX9_in 7 = .ok (.lload 4, 2) := by decide +kernel
theorem dX9_in_9 : decode cX9_in 9 = .ok (.lcmp, 1) := by decide +kernel
theorem dX9_in_10 : decode cX9_in 10 = .ok (.ifCond .gt 7, 3) := by decide +kernel
theorem dX9_in_13 : decode cX9_in 13 = .ok (.iconst 1, 1) := by decide +kernel
theorem dX9_in_14 : decode cX9_in 14 = .ok (.goto 4, 3) := by decide +kernel
theorem dX9_in_17 : decode cX9_in 17 = .ok (.iconst 0, 1) := by decide +kernel
theorem dX9_in_18 : decode cX9_in 18 = .ok (.ireturn, 1) := by decide +kernel
theorem dX9_common_0 : decode cX9_common 0 = .ok (.lload_n 0, 1) := by decide +kernel
theorem dX9_common_1 : decode cX9_common 1 = .ok (.lconst 0, 1) := by decide +kernel
theorem dX9_common_2 : decode cX9_common 2 = .ok (.lcmp, 1) := by decide +kernel
theorem dX9_common_3 : decode cX9_common 3 = .ok (.ifCond .ge 8, 3) := by decide +kernel
theorem dX9_common_6 : decode cX9_common 6 = .ok (.lload_n 0, 1) := by decide +kernel
theorem dX9_common_7 : decode cX9_common 7 = .ok (.lneg, 1) := by decide +kernel
theorem dX9_common_8 : decode cX9_common 8 = .ok (.goto 4, 3) := by decide +kernel
theorem dX9_common_11 : decode cX9_common 11 = .ok (.lload_n 0, 1) := by decide +kernel
theorem dX9_common_12 : decode cX9_common 12 = .ok (.lstore 4, 2) := by decide +kernel
theorem dX9_common_14 : decode cX9_common 14 = .ok (.lload_n 2, 1) := by decide +kernel
theorem dX9_common_15 : decode cX9_common 15 = .ok (.lconst 0, 1) := by decide +kernel
theorem dX9_common_16 : decode cX9_common 16 = .ok (.lcmp, 1) := by decide +kernel
theorem dX9_common_17 : decode cX9_common 17 = .ok (.ifCond .ge 8, 3) := by decide +kernel
theorem dX9_common_20 : decode cX9_common 20 = .ok (.lload_n 2, 1) := by decide +kernel
theorem dX9_common_21 : decode cX9_common 21 = .ok (.lneg, 1) := by decide +kernel
theorem dX9_common_22 : decode cX9_common 22 = .ok (.goto 4, 3) := by decide +kernel
theorem dX9_common_25 : decode cX9_common 25 = .ok (.lload_n 2, 1) := by decide +kernel
theorem dX9_common_26 : decode cX9_common 26 = .ok (.lstore 6, 2) := by decide +kernel
theorem dX9_common_28 : decode cX9_common 28 = .ok (.lload 6, 2) := by decide +kernel
theorem dX9_common_30 : decode cX9_common 30 = .ok (.lconst 0, 1) := by decide +kernel
theorem dX9_common_31 : decode cX9_common 31 = .ok (.lcmp, 1) := by decide +kernel
theorem dX9_common_32 : decode cX9_common 32 = .ok (.ifCond .eq 21, 3) := by decide +kernel
theorem dX9_common_35 : decode cX9_common 35 = .ok (.lload 4, 2) := by decide +kernel
theorem dX9_common_37 : decode cX9_common 37 = .ok (.lload 6, 2) := by decide +kernel
theorem dX9_common_39 : decode cX9_common 39 = .ok (.lrem, 1) := by decide +kernel
theorem dX9_common_40 : decode cX9_common 40 = .ok (.lstore 8, 2) := by decide +kernel
theorem dX9_common_42 : decode cX9_common 42 = .ok (.lload 6, 2) := by decide +kernel
theorem dX9_common_44 : decode cX9_common 44 = .ok (.lstore 4, 2) := by decide +kernel
theorem dX9_common_46 : decode cX9_common 46 = .ok (.lload 8, 2) := by decide +kernel
theorem dX9_common_48 : decode cX9_common 48 = .ok (.lstore 6, 2) := by decide +kernel
theorem dX9_common_50 : decode cX9_common 50 = .ok (.goto (-22), 3) := by decide +kernel
theorem dX9_common_53 : decode cX9_common 53 = .ok (.lload 4, 2) := by decide +kernel
theorem dX9_common_55 : decode cX9_common 55 = .ok (.lreturn, 1) := by decide +kernel
set_option maxRecDepth 20000 in
theorem ggX9_part_X9_common : GoodIn wsX9_part wsX9_common := goodIn_r _ [4] (by decide +kernel) (by decide +kernel)
set_option maxRecDepth 20000 in
theorem gX9_part_X9_common : GoodIn wsX9_part (va_wsS RX9 84 yX9_common wsX9_common) := goodIn_app (goodIn_of _ (by decide +kernel)) ggX9_part_X9_common
theorem dX9_part_0 : decode cX9_part 0 = .ok (.lload_n 0, 1) := by decide +kernel
theorem dX9_part_1 : decode cX9_part 1 = .ok (.lload_n 2, 1) := by decide +kernel
theorem dX9_part_2 : decode cX9_part 2 = .ok (.invokestatic 84, 3) := by decide +kernel
theorem dX9_part_5 : decode cX9_part 5 = .ok (.lstore 5, 2) := by decide +kernel
theorem dX9_part_7 : decode cX9_part 7 = .ok (.iload 4, 2) := by decide +kernel
theorem dX9_part_9 : decode cX9_part 9 = .ok (.ifCond .ne 10, 3) := by decide +kernel
theorem dX9_part_12 : decode cX9_part 12 = .ok (.lload_n 0, 1) := by decide +kernel
theorem dX9_part_13 : decode cX9_part 13 = .ok (.lload 5, 2) := by decide +kernel
theorem dX9_part_15 : decode cX9_part 15 = .ok (.ldiv, 1) := by decide +kernel
theorem dX9_part_16 : decode cX9_part 16 = .ok (.goto 7, 3) := by decide +kernel
theorem dX9_part_19 : decode cX9_part 19 = .ok (.lload_n 2, 1) := by decide +kernel
theorem dX9_part_20 : decode cX9_part 20 = .ok (.lload 5, 2) := by decide +kernel
theorem dX9_part_22 : decode cX9_part 22 = .ok (.ldiv, 1) := by decide +kernel
theorem dX9_part_23 : decode cX9_part 23 = .ok (.lreturn, 1) := by decide +kernel
theorem dX9_bits_0 : decode cX9_bits 0 = .ok (.iconst 0, 1) := by decide +kernel
theorem dX9_bits_1 : decode cX9_bits 1 = .ok (.istore_n 1, 1) := by decide +kernel
theorem dX9_bits_2 : decode cX9_bits 2 = .ok (.iconst 0, 1) := by decide +kernel
theorem dX9_bits_3 : decode cX9_bits 3 = .ok (.istore_n 2, 1) := by decide +kernel
theorem dX9_bits_4 : decode cX9_bits 4 = .ok (.iload_n 2, 1) := by decide +kernel
theorem dX9_bits_5 : decode cX9_bits 5 = .ok (.bipush 6, 2) := by decide +kernel
theorem dX9_bits_7 : decode cX9_bits 7 = .ok (.if_icmp .ge 17, 3) := by decide +kernel
theorem dX9_bits_10 : decode cX9_bits 10 = .ok (.iload_n 1, 1) := by decide +kernel
theorem dX9_bits_11 : decode cX9_bits 11 = .ok (.iload_n 0, 1) := by decide +kernel
theorem dX9_bits_12 : decode cX9_bits 12 = .ok (.iload_n 2, 1) := by decide +kernel
theorem dX9_bits_13 : decode cX9_bits 13 = .ok (.ishr, 1) := by decide +kernel
theorem dX9_bits_14 : decode cX9_bits 14 = .ok (.iconst 1, 1) := by decide +kernel
theorem dX9_bits_15 : decode cX9_bits 15 = .ok (.iand, 1) := by decide +kernel
theorem dX9_bits_16 : decode cX9_bits 16 = .ok (.iadd, 1) := by decide +kernel
theorem dX9_bits_17 : decode cX9_bits 17 = .ok (.istore_n 1, 1) := by decide +kernel
theorem dX9_bits_18 : decode cX9_bits 18 = .ok (.iinc 2 1, 3) := by decide +kernel
theorem dX9_bits_21 : decode cX9_bits 21 = .ok (.goto (-17), 3) := by decide +kernel
theorem dX9_bits_24 : decode cX9_bits 24 = .ok (.iload_n 1, 1) := by decide +kernel
theorem dX9_bits_25 : decode cX9_bits 25 = .ok (.ireturn, 1) := by decide +kernel
theorem dX9_lays_0 : decode cX9_lays 0 = .ok (.aload_n 1, 1) := by decide +kernel
theorem dX9_lays_1 : decode cX9_lays 1 = .ok (.iload_n 2, 1) := by decide +kernel
theorem dX9_lays_2 : decode cX9_lays 2 = .ok (.aload_n 0, 1) := by decide +kernel
theorem dX9_lays_3 : decode cX9_lays 3 = .ok (.getfield 88, 3) := by decide +kernel
theorem dX9_lays_6 : decode cX9_lays 6 = .ok (.iastore, 1) := by decide +kernel
theorem dX9_lays_7 : decode cX9_lays 7 = .ok (.aload_n 1, 1) := by decide +kernel
theorem dX9_lays_8 : decode cX9_lays 8 = .ok (.iload_n 2, 1) := by decide +kernel
theorem dX9_lays_9 : decode cX9_lays 9 = .ok (.iconst 1, 1) := by decide +kernel
theorem dX9_lays_10 : decode cX9_lays 10 = .ok (.iadd, 1) := by decide +kernel
theorem dX9_lays_11 : decode cX9_lays 11 = .ok (.aload_n 0, 1) := by decide +kernel
theorem dX9_lays_12 : decode cX9_lays 12 = .ok (.getfield 91, 3) := by decide +kernel
theorem dX9_lays_15 : decode cX9_lays 15 = .ok (.iastore, 1) := by decide +kernel
theorem dX9_lays_16 : decode cX9_lays 16 = .ok (.aload_n 1, 1) := by decide +kernel
theorem dX9_lays_17 : decode cX9_lays 17 = .ok (.iload_n 2, 1) := by decide +kernel
theorem dX9_lays_18 : decode cX9_lays 18 = .ok (.iconst 2, 1) := by decide +kernel
theorem dX9_lays_19 : decode cX9_lays 19 = .ok (.iadd, 1) := by decide +kernel
theorem dX9_lays_20 : decode cX9_lays 20 = .ok (.aload_n 0, 1) := by decide +kernel
theorem dX9_lays_21 : decode cX9_lays 21 = .ok (.getfield 15, 3) := by decide +kernel
theorem dX9_lays_24 : decode cX9_lays 24 = .ok (.iastore, 1) := by decide +kernel
theorem dX9_lays_25 : decode cX9_lays 25 = .ok (.aload_n 1, 1) := by decide +kernel
theorem dX9_lays_26 : decode cX9_lays 26 = .ok (.iload_n 2, 1) := by decide +kernel
theorem dX9_lays_27 : decode cX9_lays 27 = .ok (.iconst 3, 1) := by decide +kernel
theorem dX9_lays_28 : decode cX9_lays 28 = .ok (.iadd, 1) := by decide +kernel
theorem dX9_lays_29 : decode cX9_lays 29 = .ok (.aload_n 0, 1) := by decide +kernel
theorem dX9_lays_30 : decode cX9_lays 30 = .ok (.getfield 94, 3) := by decide +kernel
theorem dX9_lays_33 : decode cX9_lays 33 = .ok (.iastore, 1) := by decide +kernel
theorem dX9_lays_34 : decode cX9_lays 34 = .ok (.iconst 0, 1) := by decide +kernel
theorem dX9_lays_35 : decode cX9_lays 35 = .ok (.istore_n 3, 1) := by decide +kernel
theorem dX9_lays_36 : decode cX9_lays 36 = .ok (.iload_n 3, 1) := by decide +kernel
theorem dX9_lays_37 : decode cX9_lays 37 = .ok (.bipush 8, 2) := by decide +kernel
theorem dX9_lays_39 : decode cX9_lays 39 = .ok (.if_icmp .ge 34, 3) := by decide +kernel
theorem dX9_lays_42 : decode cX9_lays 42 = .ok (.aload_n 1, 1) := by decide +kernel
theorem dX9_lays_43 : decode cX9_lays 43 = .ok (.iload_n 2, 1) := by decide +kernel
theorem dX9_lays_44 : decode cX9_lays 44 = .ok (.iconst 4, 1) := by decide +kernel
theorem dX9_lays_45 : decode cX9_lays 45 = .ok (.iadd, 1) := by decide +kernel
theorem dX9_lays_46 : decode cX9_lays 46 = .ok (.iload_n 3, 1) := by decide +kernel
theorem dX9_lays_47 : decode cX9_lays 47 = .ok (.iadd, 1) := by decide +kernel
theorem dX9_lays_48 : decode cX9_lays 48 = .ok (.iload_n 3, 1) := by decide +kernel
theorem dX9_lays_49 : decode cX9_lays 49 = .ok (.aload_n 0, 1) := by decide +kernel
theorem dX9_lays_50 : decode cX9_lays 50 = .ok (.getfield 91, 3) := by decide +kernel
theorem dX9_lays_53 : decode cX9_lays 53 = .ok (.if_icmp .ge 12, 3) := by decide +kernel
theorem dX9_lays_56 : decode cX9_lays 56 = .ok (.aload_n 0, 1) := by decide +kernel
theorem dX9_lays_57 : decode cX9_lays 57 = .ok (.getfield 11, 3) := by decide +kernel
theorem dX9_lays_60 : decode cX9_lays 60 = .ok (.iload_n 3, 1) := by decide +kernel
theorem dX9_lays_61 : decode cX9_lays 61 = .ok (.iaload, 1) := by decide +kernel
theorem dX9_lays_62 : decode cX9_lays 62 = .ok (.goto 4, 3) := by decide +kernel
theorem dX9_lays_65 : decode cX9_lays 65 = .ok (.iconst 0, 1) := by decide +kernel
theorem dX9_lays_66 : decode cX9_lays 66 = .ok (.iastore, 1) := by decide +kernel
theorem dX9_lays_67 : decode cX9_lays 67 = .ok (.iinc 3 1, 3) := by decide +kernel
theorem dX9_lays_70 : decode cX9_lays 70 = .ok (.goto (-34), 3) := by decide +kernel
theorem dX9_lays_73 : decode cX9_lays 73 = .ok (.iconst 0, 1) := by decide +kernel
theorem dX9_lays_74 : decode cX9_lays 74 = .ok (.istore_n 3, 1) := by decide +kernel
theorem dX9_lays_75 : decode cX9_lays 75 = .ok (.iload_n 3, 1) := by decide +kernel
theorem dX9_lays_76 : decode cX9_lays 76 = .ok (.iconst 3, 1) := by decide +kernel
theorem dX9_lays_77 : decode cX9_lays 77 = .ok (.if_icmp .ge 35, 3) := by decide +kernel
theorem dX9_lays_80 : decode cX9_lays 80 = .ok (.aload_n 1, 1) := by decide +kernel
theorem dX9_lays_81 : decode cX9_lays 81 = .ok (.iload_n 2, 1) := by decide +kernel
theorem dX9_lays_82 : decode cX9_lays 82 = .ok (.bipush 12, 2) := by decide +kernel
theorem dX9_lays_84 : decode cX9_lays 84 = .ok (.iadd, 1) := by decide +kernel
theorem dX9_lays_85 : decode cX9_lays 85 = .ok (.iload_n 3, 1) := by decide +kernel
theorem dX9_lays_86 : decode cX9_lays 86 = .ok (.iadd, 1) := by decide +kernel
theorem dX9_lays_87 : decode cX9_lays 87 = .ok (.iload_n 3, 1) := by decide +kernel
theorem dX9_lays_88 : decode cX9_lays 88 = .ok (.aload_n 0, 1) := by decide +kernel
theorem dX9_lays_89 : decode cX9_lays 89 = .ok (.getfield 94, 3) := by decide +kernel
theorem dX9_lays_92 : decode cX9_lays 92 = .ok (.if_icmp .ge 12, 3) := by decide +kernel
theorem dX9_lays_95 : decode cX9_lays 95 = .ok (.aload_n 0, 1) := by decide +kernel
theorem dX9_lays_96 : decode cX9_lays 96 = .ok (.getfield 19, 3) := by decide +kernel
theorem dX9_lays_99 : decode cX9_lays 99 = .ok (.iload_n 3, 1) := by decide +kernel
theorem dX9_lays_100 : decode cX9_lays 100 = .ok (.iaload, 1) := by decide +kernel
theorem dX9_lays_101 : decode cX9_lays 101 = .ok (.goto 4, 3) := by decide +kernel
theorem dX9_lays_104 : decode cX9_lays 104 = .ok (.iconst 0, 1) := by decide +kernel
theorem dX9_lays_105 : decode cX9_lays 105 = .ok (.iastore, 1) := by decide +kernel
theorem dX9_lays_106 : decode cX9_lays 106 = .ok (.iinc 3 1, 3) := by decide +kernel
theorem dX9_lays_109 : decode cX9_lays 109 = .ok (.goto (-34), 3) := by decide +kernel
theorem dX9_lays_112 : decode cX9_lays 112 = .ok (.aload_n 1, 1) := by decide +kernel
theorem dX9_lays_113 : decode cX9_lays 113 = .ok (.iload_n 2, 1) := by decide +kernel
theorem dX9_lays_114 : decode cX9_lays 114 = .ok (.bipush 15, 2) := by decide +kernel
theorem dX9_lays_116 : decode cX9_lays 116 = .ok (.iadd, 1) := by decide +kernel
theorem dX9_lays_117 : decode cX9_lays 117 = .ok (.iconst 0, 1) := by decide +kernel
theorem dX9_lays_118 : decode cX9_lays 118 = .ok (.iastore, 1) := by decide +kernel
theorem dX9_lays_119 : decode cX9_lays 119 = .ok (.return_, 1) := by decide +kernel
theorem dX9_takes_0 : decode cX9_takes 0 = .ok (.aload_n 0, 1) := by decide +kernel
theorem dX9_takes_1 : decode cX9_takes 1 = .ok (.aload_n 1, 1) := by decide +kernel
theorem dX9_takes_2 : decode cX9_takes 2 = .ok (.iload_n 2, 1) := by decide +kernel
theorem dX9_takes_3 : decode cX9_takes 3 = .ok (.iaload, 1) := by decide +kernel
theorem dX9_takes_4 : decode cX9_takes 4 = .ok (.putfield 88, 3) := by decide +kernel
theorem dX9_takes_7 : decode cX9_takes 7 = .ok (.aload_n 0, 1) := by decide +kernel
theorem dX9_takes_8 : decode cX9_takes 8 = .ok (.aload_n 1, 1) := by decide +kernel
theorem dX9_takes_9 : decode cX9_takes 9 = .ok (.iload_n 2, 1) := by decide +kernel
theorem dX9_takes_10 : decode cX9_takes 10 = .ok (.iconst 1, 1) := by decide +kernel
theorem dX9_takes_11 : decode cX9_takes 11 = .ok (.iadd, 1) := by decide +kernel
theorem dX9_takes_12 : decode cX9_takes 12 = .ok (.iaload, 1) := by decide +kernel
theorem dX9_takes_13 : decode cX9_takes 13 = .ok (.putfield 91, 3) := by decide +kernel
theorem dX9_takes_16 : decode cX9_takes 16 = .ok (.aload_n 0, 1) := by decide +kernel
theorem dX9_takes_17 : decode cX9_takes 17 = .ok (.aload_n 1, 1) := by decide +kernel
theorem dX9_takes_18 : decode cX9_takes 18 = .ok (.iload_n 2, 1) := by decide +kernel
theorem dX9_takes_19 : decode cX9_takes 19 = .ok (.iconst 2, 1) := by decide +kernel
theorem dX9_takes_20 : decode cX9_takes 20 = .ok (.iadd, 1) := by decide +kernel
theorem dX9_takes_21 : decode cX9_takes 21 = .ok (.iaload, 1) := by decide +kernel
theorem dX9_takes_22 : decode cX9_takes 22 = .ok (.putfield 15, 3) := by decide +kernel
theorem dX9_takes_25 : decode cX9_takes 25 = .ok (.aload_n 0, 1) := by decide +kernel
theorem dX9_takes_26 : decode cX9_takes 26 = .ok (.aload_n 1, 1) := by decide +kernel
theorem dX9_takes_27 : decode cX9_takes 27 = .ok (.iload_n 2, 1) := by decide +kernel
theorem dX9_takes_28 : decode cX9_takes 28 = .ok (.iconst 3, 1) := by decide +kernel
theorem dX9_takes_29 : decode cX9_takes 29 = .ok (.iadd, 1) := by decide +kernel
theorem dX9_takes_30 : decode cX9_takes 30 = .ok (.iaload, 1) := by decide +kernel
theorem dX9_takes_31 : decode cX9_takes 31 = .ok (.putfield 94, 3) := by decide +kernel
theorem dX9_takes_34 : decode cX9_takes 34 = .ok (.iconst 0, 1) := by decide +kernel
theorem dX9_takes_35 : decode cX9_takes 35 = .ok (.istore_n 3, 1) := by decide +kernel
theorem dX9_takes_36 : decode cX9_takes 36 = .ok (.iload_n 3, 1) := by decide +kernel
theorem dX9_takes_37 : decode cX9_takes 37 = .ok (.bipush 8, 2) := by decide +kernel
theorem dX9_takes_39 : decode cX9_takes 39 = .ok (.if_icmp .ge 22, 3) := by decide +kernel
theorem dX9_takes_42 : decode cX9_takes 42 = .ok (.aload_n 0, 1) := by decide +kernel
theorem dX9_takes_43 : decode cX9_takes 43 = .ok (.getfield 11, 3) := by decide +kernel
theorem dX9_takes_46 : decode cX9_takes 46 = .ok (.iload_n 3, 1) := by decide +kernel
theorem dX9_takes_47 : decode cX9_takes 47 = .ok (.aload_n 1, 1) := by decide +kernel
theorem dX9_takes_48 : decode cX9_takes 48 = .ok (.iload_n 2, 1) := by decide +kernel
theorem dX9_takes_49 : decode cX9_takes 49 = .ok (.iconst 4, 1) := by decide +kernel
theorem dX9_takes_50 : decode cX9_takes 50 = .ok (.iadd, 1) := by decide +kernel
theorem dX9_takes_51 : decode cX9_takes 51 = .ok (.iload_n 3, 1) := by decide +kernel
theorem dX9_takes_52 : decode cX9_takes 52 = .ok (.iadd, 1) := by decide +kernel
theorem dX9_takes_53 : decode cX9_takes 53 = .ok (.iaload, 1) := by decide +kernel
theorem dX9_takes_54 : decode cX9_takes 54 = .ok (.iastore, 1) := by decide +kernel
theorem dX9_takes_55 : decode cX9_takes 55 = .ok (.iinc 3 1, 3) := by decide +kernel
theorem dX9_takes_58 : decode cX9_takes 58 = .ok (.goto (-22), 3) := by decide +kernel
theorem dX9_takes_61 : decode cX9_takes 61 = .ok (.iconst 0, 1) := by decide +kernel
theorem dX9_takes_62 : decode cX9_takes 62 = .ok (.istore_n 3, 1) := by decide +kernel
theorem dX9_takes_63 : decode cX9_takes 63 = .ok (.iload_n 3, 1) := by decide +kernel
theorem dX9_takes_64 : decode cX9_takes 64 = .ok (.iconst 3, 1) := by decide +kernel
theorem dX9_takes_65 : decode cX9_takes 65 = .ok (.if_icmp .ge 23, 3) := by decide +kernel
theorem dX9_takes_68 : decode cX9_takes 68 = .ok (.aload_n 0, 1) := by decide +kernel
theorem dX9_takes_69 : decode cX9_takes 69 = .ok (.getfield 19, 3) := by decide +kernel
theorem dX9_takes_72 : decode cX9_takes 72 = .ok (.iload_n 3, 1) := by decide +kernel
theorem dX9_takes_73 : decode cX9_takes 73 = .ok (.aload_n 1, 1) := by decide +kernel
theorem dX9_takes_74 : decode cX9_takes 74 = .ok (.iload_n 2, 1) := by decide +kernel
theorem dX9_takes_75 : decode cX9_takes 75 = .ok (.bipush 12, 2) := by decide +kernel
theorem dX9_takes_77 : decode cX9_takes 77 = .ok (.iadd, 1) := by decide +kernel
theorem dX9_takes_78 : decode cX9_takes 78 = .ok (.iload_n 3, 1) := by decide +kernel
theorem dX9_takes_79 : decode cX9_takes 79 = .ok (.iadd, 1) := by decide +kernel
theorem dX9_takes_80 : decode cX9_takes 80 = .ok (.iaload, 1) := by decide +kernel
theorem dX9_takes_81 : decode cX9_takes 81 = .ok (.iastore, 1) := by decide +kernel
theorem dX9_takes_82 : decode cX9_takes 82 = .ok (.iinc 3 1, 3) := by decide +kernel
theorem dX9_takes_85 : decode cX9_takes 85 = .ok (.goto (-22), 3) := by decide +kernel
theorem dX9_takes_88 : decode cX9_takes 88 = .ok (.return_, 1) := by decide +kernel
set_option maxRecDepth 20000 in
theorem ggX9_begins_X9_lays : GoodIn wsX9_begins wsX9_lays := goodIn_r _ [6, 7, 8, 9, 10, 11, 12, 13, 14, 15, 16, 17, 18, 19, 20, 21, 22, 23, 24, 25, 26, 27, 28, 29, 30, 31, 32, 33, 34, 35, 36, 37, 38, 39, 40, 41, 42, 43, 44, 45, 46, 47, 48, 49, 50, 51, 52, 53, 54] (by decide +kernel) (by decide +kernel)
set_option maxRecDepth 20000 in
theorem gX9_begins_X9_lays : GoodIn wsX9_begins (wsV RX9 97 RX9 yX9_lays wsX9_lays) := goodIn_app (goodIn_of _ (by decide +kernel)) ggX9_begins_X9_lays
theorem dX9_begins_0 : decode cX9_begins 0 = .ok (.aload_n 0, 1) := by decide +kernel
theorem dX9_begins_1 : decode cX9_begins 1 = .ok (.aload_n 0, 1) := by decide +kernel
theorem dX9_begins_2 : decode cX9_begins 2 = .ok (.getfield 28, 3) := by decide +kernel
theorem dX9_begins_5 : decode cX9_begins 5 = .ok (.iconst 0, 1) := by decide +kernel
theorem dX9_begins_6 : decode cX9_begins 6 = .ok (.invokevirtual 97, 3) := by decide +kernel
theorem dX9_begins_9 : decode cX9_begins 9 = .ok (.return_, 1) := by decide +kernel
set_option maxRecDepth 20000 in
theorem ggX9_ends_X9_lays : GoodIn wsX9_ends wsX9_lays := goodIn_r _ [10, 11, 12, 13, 14, 15, 16, 17, 18, 19, 20, 21, 22, 23, 24, 25, 26, 27, 28, 29, 30, 31, 32, 33, 34, 35, 36, 37, 38, 39, 40, 41, 42, 43, 44, 45, 46, 47, 48, 49, 50, 51, 52, 53, 54, 55, 56, 57, 58] (by decide +kernel) (by decide +kernel)
set_option maxRecDepth 20000 in
theorem gX9_ends_X9_lays : GoodIn wsX9_ends (wsV RX9 97 RX9 yX9_lays wsX9_lays) := goodIn_app (goodIn_of _ (by decide +kernel)) ggX9_ends_X9_lays
theorem dX9_ends_0 : decode cX9_ends 0 = .ok (.aload_n 0, 1) := by decide +kernel
theorem dX9_ends_1 : decode cX9_ends 1 = .ok (.aload_n 0, 1) := by decide +kernel
theorem dX9_ends_2 : decode cX9_ends 2 = .ok (.getfield 25, 3) := by decide +kernel
theorem dX9_ends_5 : decode cX9_ends 5 = .ok (.sipush 128, 3) := by decide +kernel
theorem dX9_ends_8 : decode cX9_ends 8 = .ok (.invokevirtual 97, 3) := by decide +kernel
theorem dX9_ends_11 : decode cX9_ends 11 = .ok (.iconst 1, 1) := by decide +kernel
theorem dX9_ends_12 : decode cX9_ends 12 = .ok (.istore_n 1, 1) := by decide +kernel
theorem dX9_ends_13 : decode cX9_ends 13 = .ok (.iconst 0, 1) := by decide +kernel
theorem dX9_ends_14 : decode cX9_ends 14 = .ok (.istore_n 2, 1) := by decide +kernel
theorem dX9_ends_15 : decode cX9_ends 15 = .ok (.iload_n 2, 1) := by decide +kernel
theorem dX9_ends_16 : decode cX9_ends 16 = .ok (.bipush 16, 2) := by decide +kernel
theorem dX9_ends_18 : decode cX9_ends 18 = .ok (.if_icmp .ge 38, 3) := by decide +kernel
theorem dX9_ends_21 : decode cX9_ends 21 = .ok (.iload_n 1, 1) := by decide +kernel
theorem dX9_ends_22 : decode cX9_ends 22 = .ok (.ifCond .eq 26, 3) := by decide +kernel
theorem dX9_ends_25 : decode cX9_ends 25 = .ok (.aload_n 0, 1) := by decide +kernel
theorem dX9_ends_26 : decode cX9_ends 26 = .ok (.getfield 25, 3) := by decide +kernel
theorem dX9_ends_29 : decode cX9_ends 29 = .ok (.sipush 128, 3) := by decide +kernel
theorem dX9_ends_32 : decode cX9_ends 32 = .ok (.iload_n 2, 1) := by decide +kernel
theorem dX9_ends_33 : decode cX9_ends 33 = .ok (.iadd, 1) := by decide +kernel
theorem dX9_ends_34 : decode cX9_ends 34 = .ok (.iaload, 1) := by decide +kernel
theorem dX9_ends_35 : decode cX9_ends 35 = .ok (.aload_n 0, 1) := by decide +kernel
theorem dX9_ends_36 : decode cX9_ends 36 = .ok (.getfield 28, 3) := by decide +kernel
theorem dX9_ends_39 : decode cX9_ends 39 = .ok (.iload_n 2, 1) := by decide +kernel
theorem dX9_ends_40 : decode cX9_ends 40 = .ok (.iaload, 1) := by decide +kernel
theorem dX9_ends_41 : decode cX9_ends 41 = .ok (.if_icmp .ne 7, 3) := by decide +kernel
theorem dX9_ends_44 : decode cX9_ends 44 = .ok (.iconst 1, 1) := by decide +kernel
theorem dX9_ends_45 : decode cX9_ends 45 = .ok (.goto 4, 3) := by decide +kernel
theorem dX9_ends_48 : decode cX9_ends 48 = .ok (.iconst 0, 1) := by decide +kernel
theorem dX9_ends_49 : decode cX9_ends 49 = .ok (.istore_n 1, 1) := by decide +kernel
theorem dX9_ends_50 : decode cX9_ends 50 = .ok (.iinc 2 1, 3) := by decide +kernel
theorem dX9_ends_53 : decode cX9_ends 53 = .ok (.goto (-38), 3) := by decide +kernel
theorem dX9_ends_56 : decode cX9_ends 56 = .ok (.iload_n 1, 1) := by decide +kernel
theorem dX9_ends_57 : decode cX9_ends 57 = .ok (.ifCond .eq 4, 3) := by decide +kernel
theorem dX9_ends_60 : decode cX9_ends 60 = .ok (.return_, 1) := by decide +kernel
theorem dX9_ends_61 : decode cX9_ends 61 = .ok (.aload_n 0, 1) := by decide +kernel
theorem dX9_ends_62 : decode cX9_ends 62 = .ok (.getfield 101, 3) := by decide +kernel
theorem dX9_ends_65 : decode cX9_ends 65 = .ok (.bipush 8, 2) := by decide +kernel
theorem dX9_ends_67 : decode cX9_ends 67 = .ok (.if_icmp .ne 42, 3) := by decide +kernel
theorem dX9_ends_70 : decode cX9_ends 70 = .ok (.iconst 0, 1) := by decide +kernel
theorem dX9_ends_71 : decode cX9_ends 71 = .ok (.istore_n 2, 1) := by decide +kernel
theorem dX9_ends_72 : decode cX9_ends 72 = .ok (.iload_n 2, 1) := by decide +kernel
theorem dX9_ends_73 : decode cX9_ends 73 = .ok (.bipush 112, 2) := by decide +kernel
theorem dX9_ends_75 : decode cX9_ends 75 = .ok (.if_icmp .ge 24, 3) := by decide +kernel
theorem dX9_ends_78 : decode cX9_ends 78 = .ok (.aload_n 0, 1) := by decide +kernel
theorem dX9_ends_79 : decode cX9_ends 79 = .ok (.getfield 22, 3) := by decide +kernel
theorem dX9_ends_82 : decode cX9_ends 82 = .ok (.iload_n 2, 1) := by decide +kernel
theorem dX9_ends_83 : decode cX9_ends 83 = .ok (.aload_n 0, 1) := by decide +kernel
theorem dX9_ends_84 : decode cX9_ends 84 = .ok (.getfield 22, 3) := by decide +kernel
theorem dX9_ends_87 : decode cX9_ends 87 = .ok (.iload_n 2, 1) := by decide +kernel
theorem dX9_ends_88 : decode cX9_ends 88 = .ok (.bipush 16, 2) := by decide +kernel
theorem dX9_ends_90 : decode cX9_ends 90 = .ok (.iadd, 1) := by decide +kernel
theorem dX9_ends_91 : decode cX9_ends 91 = .ok (.iaload, 1) := by decide +kernel
theorem dX9_ends_92 : decode cX9_ends 92 = .ok (.iastore, 1) := by decide +kernel
theorem dX9_ends_93 : decode cX9_ends 93 = .ok (.iinc 2 1, 3) := by decide +kernel
theorem dX9_ends_96 : decode cX9_ends 96 = .ok (.goto (-24), 3) := by decide +kernel
theorem dX9_ends_99 : decode cX9_ends 99 = .ok (.aload_n 0, 1) := by decide +kernel
theorem dX9_ends_100 : decode cX9_ends 100 = .ok (.dup, 1) := by decide +kernel
theorem dX9_ends_101 : decode cX9_ends 101 = .ok (.getfield 101, 3) := by decide +kernel
theorem dX9_ends_104 : decode cX9_ends 104 = .ok (.iconst 1, 1) := by decide +kernel
theorem dX9_ends_105 : decode cX9_ends 105 = .ok (.isub, 1) := by decide +kernel
theorem dX9_ends_106 : decode cX9_ends 106 = .ok (.putfield 101, 3) := by decide +kernel
theorem dX9_ends_109 : decode cX9_ends 109 = .ok (.iconst 0, 1) := by decide +kernel
theorem dX9_ends_110 : decode cX9_ends 110 = .ok (.istore_n 2, 1) := by decide +kernel
theorem dX9_ends_111 : decode cX9_ends 111 = .ok (.iload_n 2, 1) := by decide +kernel
theorem dX9_ends_112 : decode cX9_ends 112 = .ok (.bipush 16, 2) := by decide +kernel
theorem dX9_ends_114 : decode cX9_ends 114 = .ok (.if_icmp .ge 29, 3) := by decide +kernel
theorem dX9_ends_117 : decode cX9_ends 117 = .ok (.aload_n 0, 1) := by decide +kernel
theorem dX9_ends_118 : decode cX9_ends 118 = .ok (.getfield 22, 3) := by decide +kernel
theorem dX9_ends_121 : decode cX9_ends 121 = .ok (.aload_n 0, 1) := by decide +kernel
theorem dX9_ends_122 : decode cX9_ends 122 = .ok (.getfield 101, 3) := by decide +kernel
theorem dX9_ends_125 : decode cX9_ends 125 = .ok (.bipush 16, 2) := by decide +kernel
theorem dX9_ends_127 : decode cX9_ends 127 = .ok (.imul, 1) := by decide +kernel
theorem dX9_ends_128 : decode cX9_ends 128 = .ok (.iload_n 2, 1) := by decide +kernel
theorem dX9_ends_129 : decode cX9_ends 129 = .ok (.iadd, 1) := by decide +kernel
theorem dX9_ends_130 : decode cX9_ends 130 = .ok (.aload_n 0, 1) := by decide +kernel
theorem dX9_ends_131 : decode cX9_ends 131 = .ok (.getfield 28, 3) := by decide +kernel
theorem dX9_ends_134 : decode cX9_ends 134 = .ok (.iload_n 2, 1) := by decide +kernel
theorem dX9_ends_135 : decode cX9_ends 135 = .ok (.iaload, 1) := by decide +kernel
theorem dX9_ends_136 : decode cX9_ends 136 = .ok (.iastore, 1) := by decide +kernel
theorem dX9_ends_137 : decode cX9_ends 137 = .ok (.iinc 2 1, 3) := by decide +kernel
theorem dX9_ends_140 : decode cX9_ends 140 = .ok (.goto (-29), 3) := by decide +kernel
theorem dX9_ends_143 : decode cX9_ends 143 = .ok (.aload_n 0, 1) := by decide +kernel
theorem dX9_ends_144 : decode cX9_ends 144 = .ok (.dup, 1) := by decide +kernel
theorem dX9_ends_145 : decode cX9_ends 145 = .ok (.getfield 101, 3) := by decide +kernel
theorem dX9_ends_148 : decode cX9_ends 148 = .ok (.iconst 1, 1) := by decide +kernel
theorem dX9_ends_149 : decode cX9_ends 149 = .ok (.iadd, 1) := by decide +kernel
theorem dX9_ends_150 : decode cX9_ends 150 = .ok (.putfield 101, 3) := by decide +kernel
theorem dX9_ends_153 : decode cX9_ends 153 = .ok (.aload_n 0, 1) := by decide +kernel
theorem dX9_ends_154 : decode cX9_ends 154 = .ok (.iconst 0, 1) := by decide +kernel
theorem dX9_ends_155 : decode cX9_ends 155 = .ok (.putfield 104, 3) := by decide +kernel
theorem dX9_ends_158 : decode cX9_ends 158 = .ok (.return_, 1) := by decide +kernel
set_option maxRecDepth 20000 in
theorem ggX9_undo_X9_lays : GoodIn wsX9_undo wsX9_lays := goodIn_r _ [9, 10, 11, 12, 13, 14, 15, 20, 21, 22, 23, 24, 25, 26, 27, 28, 29, 30, 31, 32, 33, 34, 35, 36, 37, 38, 39, 40, 41, 42, 43, 44, 45, 46, 47, 48, 49, 50, 51, 52, 53, 54, 55, 56, 57, 58, 59, 60, 61] (by decide +kernel) (by decide +kernel)
set_option maxRecDepth 20000 in
theorem gX9_undo_X9_lays : GoodIn wsX9_undo (wsV RX9 97 RX9 yX9_lays wsX9_lays) := goodIn_app (goodIn_of _ (by decide +kernel)) ggX9_undo_X9_lays
set_option maxRecDepth 20000 in
theorem ggX9_undo_X9_takes : GoodIn wsX9_undo wsX9_takes := goodIn_r _ [19, 10, 11, 12, 13, 14, 15, 20, 21, 22, 23, 24, 25, 26, 27, 28, 29, 30, 31, 32, 33, 34, 35, 36, 37, 38, 39, 40, 41, 42, 43, 44, 45, 46, 47, 48, 49, 50, 51, 52, 53, 54, 55, 56, 57, 58, 59, 60, 61] (by decide +kernel) (by decide +kernel)
set_option maxRecDepth 20000 in
theorem gX9_undo_X9_takes : GoodIn wsX9_undo (wsV RX9 107 RX9 yX9_takes wsX9_takes) := goodIn_app (goodIn_of _ (by decide +kernel)) ggX9_undo_X9_takes
theorem dX9_undo_0 : decode cX9_undo 0 = .ok (.aload_n 0, 1) := by decide +kernel
theorem dX9_undo_1 : decode cX9_undo 1 = .ok (.getfield 101, 3) := by decide +kernel
theorem dX9_undo_4 : decode cX9_undo 4 = .ok (.ifCond .ne 6, 3) := by decide +kernel
theorem dX9_undo_7 : decode cX9_undo 7 = .ok (.bipush (-5), 2) := by decide +kernel
theorem dX9_undo_9 : decode cX9_undo 9 = .ok (.ireturn, 1) := by decide +kernel
theorem dX9_undo_10 : decode cX9_undo 10 = .ok (.aload_n 0, 1) := by decide +kernel
theorem dX9_undo_11 : decode cX9_undo 11 = .ok (.aload_n 0, 1) := by decide +kernel
theorem dX9_undo_12 : decode cX9_undo 12 = .ok (.getfield 25, 3) := by decide +kernel
theorem dX9_undo_15 : decode cX9_undo 15 = .ok (.aload_n 0, 1) := by decide +kernel
theorem dX9_undo_16 : decode cX9_undo 16 = .ok (.getfield 104, 3) := by decide +kernel
theorem dX9_undo_19 : decode cX9_undo 19 = .ok (.bipush 16, 2) := by decide +kernel
theorem dX9_undo_21 : decode cX9_undo 21 = .ok (.imul, 1) := by decide +kernel
theorem dX9_undo_22 : decode cX9_undo 22 = .ok (.invokevirtual 97, 3) := by decide +kernel
theorem dX9_undo_25 : decode cX9_undo 25 = .ok (.aload_n 0, 1) := by decide +kernel
theorem dX9_undo_26 : decode cX9_undo 26 = .ok (.dup, 1) := by decide +kernel
theorem dX9_undo_27 : decode cX9_undo 27 = .ok (.getfield 104, 3) := by decide +kernel
theorem dX9_undo_30 : decode cX9_undo 30 = .ok (.iconst 1, 1) := by decide +kernel
theorem dX9_undo_31 : decode cX9_undo 31 = .ok (.iadd, 1) := by decide +kernel
theorem dX9_undo_32 : decode cX9_undo 32 = .ok (.putfield 104, 3) := by decide +kernel
theorem dX9_undo_35 : decode cX9_undo 35 = .ok (.aload_n 0, 1) := by decide +kernel
theorem dX9_undo_36 : decode cX9_undo 36 = .ok (.dup, 1) := by decide +kernel
theorem dX9_undo_37 : decode cX9_undo 37 = .ok (.getfield 101, 3) := by decide +kernel
theorem dX9_undo_40 : decode cX9_undo 40 = .ok (.iconst 1, 1) := by decide +kernel
theorem dX9_undo_41 : decode cX9_undo 41 = .ok (.isub, 1) := by decide +kernel
theorem dX9_undo_42 : decode cX9_undo 42 = .ok (.putfield 101, 3) := by decide +kernel
theorem dX9_undo_45 : decode cX9_undo 45 = .ok (.aload_n 0, 1) := by decide +kernel
theorem dX9_undo_46 : decode cX9_undo 46 = .ok (.aload_n 0, 1) := by decide +kernel
theorem dX9_undo_47 : decode cX9_undo 47 = .ok (.getfield 22, 3) := by decide +kernel
theorem dX9_undo_50 : decode cX9_undo 50 = .ok (.aload_n 0, 1) := by decide +kernel
theorem dX9_undo_51 : decode cX9_undo 51 = .ok (.getfield 101, 3) := by decide +kernel
theorem dX9_undo_54 : decode cX9_undo 54 = .ok (.bipush 16, 2) := by decide +kernel
theorem dX9_undo_56 : decode cX9_undo 56 = .ok (.imul, 1) := by decide +kernel
theorem dX9_undo_57 : decode cX9_undo 57 = .ok (.invokevirtual 107, 3) := by decide +kernel
theorem dX9_undo_60 : decode cX9_undo 60 = .ok (.aload_n 0, 1) := by decide +kernel
theorem dX9_undo_61 : decode cX9_undo 61 = .ok (.getfield 101, 3) := by decide +kernel
theorem dX9_undo_64 : decode cX9_undo 64 = .ok (.ireturn, 1) := by decide +kernel
set_option maxRecDepth 20000 in
theorem ggX9_again_X9_lays : GoodIn wsX9_again wsX9_lays := goodIn_r _ [9, 10, 11, 12, 13, 14, 15, 20, 21, 22, 23, 24, 25, 26, 27, 28, 29, 30, 31, 32, 33, 34, 35, 36, 37, 38, 39, 40, 41, 42, 43, 44, 45, 46, 47, 48, 49, 50, 51, 52, 53, 54, 55, 56, 57, 58, 59, 60, 61] (by decide +kernel) (by decide +kernel)
set_option maxRecDepth 20000 in
theorem gX9_again_X9_lays : GoodIn wsX9_again (wsV RX9 97 RX9 yX9_lays wsX9_lays) := goodIn_app (goodIn_of _ (by decide +kernel)) ggX9_again_X9_lays
set_option maxRecDepth 20000 in
theorem ggX9_again_X9_takes : GoodIn wsX9_again wsX9_takes := goodIn_r _ [19, 10, 11, 12, 13, 14, 15, 20, 21, 22, 23, 24, 25, 26, 27, 28, 29, 30, 31, 32, 33, 34, 35, 36, 37, 38, 39, 40, 41, 42, 43, 44, 45, 46, 47, 48, 49, 50, 51, 52, 53, 54, 55, 56, 57, 58, 59, 60, 61] (by decide +kernel) (by decide +kernel)
set_option maxRecDepth 20000 in
theorem gX9_again_X9_takes : GoodIn wsX9_again (wsV RX9 107 RX9 yX9_takes wsX9_takes) := goodIn_app (goodIn_of _ (by decide +kernel)) ggX9_again_X9_takes
theorem dX9_again_0 : decode cX9_again 0 = .ok (.aload_n 0, 1) := by decide +kernel
theorem dX9_again_1 : decode cX9_again 1 = .ok (.getfield 104, 3) := by decide +kernel
theorem dX9_again_4 : decode cX9_again 4 = .ok (.ifCond .ne 6, 3) := by decide +kernel
theorem dX9_again_7 : decode cX9_again 7 = .ok (.bipush (-5), 2) := by decide +kernel
theorem dX9_again_9 : decode cX9_again 9 = .ok (.ireturn, 1) := by decide +kernel
theorem dX9_again_10 : decode cX9_again 10 = .ok (.aload_n 0, 1) := by decide +kernel
theorem dX9_again_11 : decode cX9_again 11 = .ok (.aload_n 0, 1) := by decide +kernel
theorem dX9_again_12 : decode cX9_again 12 = .ok (.getfield 22, 3) := by decide +kernel
theorem dX9_again_15 : decode cX9_again 15 = .ok (.aload_n 0, 1) := by decide +kernel
theorem dX9_again_16 : decode cX9_again 16 = .ok (.getfield 101, 3) := by decide +kernel
theorem dX9_again_19 : decode cX9_again 19 = .ok (.bipush 16, 2) := by decide +kernel
theorem dX9_again_21 : decode cX9_again 21 = .ok (.imul, 1) := by decide +kernel
theorem dX9_again_22 : decode cX9_again 22 = .ok (.invokevirtual 97, 3) := by decide +kernel
theorem dX9_again_25 : decode cX9_again 25 = .ok (.aload_n 0, 1) := by decide +kernel
theorem dX9_again_26 : decode cX9_again 26 = .ok (.dup, 1) := by decide +kernel
theorem dX9_again_27 : decode cX9_again 27 = .ok (.getfield 101, 3) := by decide +kernel
theorem dX9_again_30 : decode cX9_again 30 = .ok (.iconst 1, 1) := by decide +kernel
theorem dX9_again_31 : decode cX9_again 31 = .ok (.iadd, 1) := by decide +kernel
theorem dX9_again_32 : decode cX9_again 32 = .ok (.putfield 101, 3) := by decide +kernel
theorem dX9_again_35 : decode cX9_again 35 = .ok (.aload_n 0, 1) := by decide +kernel
theorem dX9_again_36 : decode cX9_again 36 = .ok (.dup, 1) := by decide +kernel
theorem dX9_again_37 : decode cX9_again 37 = .ok (.getfield 104, 3) := by decide +kernel
theorem dX9_again_40 : decode cX9_again 40 = .ok (.iconst 1, 1) := by decide +kernel
theorem dX9_again_41 : decode cX9_again 41 = .ok (.isub, 1) := by decide +kernel
theorem dX9_again_42 : decode cX9_again 42 = .ok (.putfield 104, 3) := by decide +kernel
theorem dX9_again_45 : decode cX9_again 45 = .ok (.aload_n 0, 1) := by decide +kernel
theorem dX9_again_46 : decode cX9_again 46 = .ok (.aload_n 0, 1) := by decide +kernel
theorem dX9_again_47 : decode cX9_again 47 = .ok (.getfield 25, 3) := by decide +kernel
theorem dX9_again_50 : decode cX9_again 50 = .ok (.aload_n 0, 1) := by decide +kernel
theorem dX9_again_51 : decode cX9_again 51 = .ok (.getfield 104, 3) := by decide +kernel
theorem dX9_again_54 : decode cX9_again 54 = .ok (.bipush 16, 2) := by decide +kernel
theorem dX9_again_56 : decode cX9_again 56 = .ok (.imul, 1) := by decide +kernel
theorem dX9_again_57 : decode cX9_again 57 = .ok (.invokevirtual 107, 3) := by decide +kernel
theorem dX9_again_60 : decode cX9_again 60 = .ok (.aload_n 0, 1) := by decide +kernel
theorem dX9_again_61 : decode cX9_again 61 = .ok (.getfield 104, 3) := by decide +kernel
theorem dX9_again_64 : decode cX9_again 64 = .ok (.ireturn, 1) := by decide +kernel
set_option maxRecDepth 20000 in
theorem ggX9_isMark_X9_in : GoodIn wsX9_isMark wsX9_in := goodIn_r _ [5] (by decide +kernel) (by decide +kernel)
set_option maxRecDepth 20000 in
theorem gX9_isMark_X9_in : GoodIn wsX9_isMark (va_wsS RX9 110 yX9_in wsX9_in) := goodIn_app (goodIn_of _ (by decide +kernel)) ggX9_isMark_X9_in
theorem dX9_isMark_0 : decode cX9_isMark 0 = .ok (.iload_n 1, 1) := by decide +kernel
theorem dX9_isMark_1 : decode cX9_isMark 1 = .ok (.i2l, 1) := by decide +kernel
theorem dX9_isMark_2 : decode cX9_isMark 2 = .ok (.lconst 0, 1) := by decide +kernel
theorem dX9_isMark_3 : decode cX9_isMark 3 = .ok (.aload_n 0, 1) := by decide +kernel
theorem dX9_isMark_4 : decode cX9_isMark 4 = .ok (.getfield 91, 3) := by decide +kernel
theorem dX9_isMark_7 : decode cX9_isMark 7 = .ok (.iconst 1, 1) := by decide +kernel
theorem dX9_isMark_8 : decode cX9_isMark 8 = .ok (.isub, 1) := by decide +kernel
theorem dX9_isMark_9 : decode cX9_isMark 9 = .ok (.i2l, 1) := by decide +kernel
theorem dX9_isMark_10 : decode cX9_isMark 10 = .ok (.invokestatic 110, 3) := by decide +kernel
theorem dX9_isMark_13 : decode cX9_isMark 13 = .ok (.ireturn, 1) := by decide +kernel
set_option maxRecDepth 20000 in
theorem ggX9_genus_X9_in : GoodIn wsX9_genus wsX9_in := goodIn_r _ [6] (by decide +kernel) (by decide +kernel)
set_option maxRecDepth 20000 in
theorem gX9_genus_X9_in : GoodIn wsX9_genus (va_wsS RX9 110 yX9_in wsX9_in) := goodIn_app (goodIn_of _ (by decide +kernel)) ggX9_genus_X9_in
set_option maxRecDepth 20000 in
theorem ggX9_genus_X9_begins : GoodIn wsX9_genus wsX9_begins := goodIn_r _ [10, 11, 12, 13, 14, 5, 15, 2, 16, 17, 18, 19, 20, 29, 30, 31, 32, 33, 34, 35, 36, 37, 38, 39, 40, 41, 42, 43, 44, 45, 46, 47, 48, 49, 50, 51, 52, 53, 54, 55, 56, 57, 58, 59, 60, 61, 62, 63, 64, 65, 66, 67, 68, 69, 70] (by decide +kernel) (by decide +kernel)
set_option maxRecDepth 20000 in
theorem gX9_genus_X9_begins : GoodIn wsX9_genus (wsV RX9 116 RX9 yX9_begins wsX9_begins) := goodIn_app (goodIn_of _ (by decide +kernel)) ggX9_genus_X9_begins
set_option maxRecDepth 20000 in
theorem ggX9_genus_X9_ends : GoodIn wsX9_genus wsX9_ends := goodIn_r _ [24, 25, 11, 26, 27, 28, 12, 13, 14, 5, 15, 2, 16, 17, 18, 19, 20, 29, 30, 31, 32, 33, 34, 35, 36, 37, 38, 39, 40, 41, 42, 43, 44, 45, 46, 47, 48, 49, 50, 51, 52, 53, 54, 55, 56, 57, 58, 59, 60, 61, 62, 63, 64, 65, 66, 67, 68, 69, 70] (by decide +kernel) (by decide +kernel)
set_option maxRecDepth 20000 in
theorem gX9_genus_X9_ends : GoodIn wsX9_genus (wsV RX9 119 RX9 yX9_ends wsX9_ends) := goodIn_app (goodIn_of _ (by decide +kernel)) ggX9_genus_X9_ends
theorem dX9_genus_0 : decode cX9_genus 0 = .ok (.iload_n 1, 1) := by decide +kernel
theorem dX9_genus_1 : decode cX9_genus 1 = .ok (.i2l, 1) := by decide +kernel
theorem dX9_genus_2 : decode cX9_genus 2 = .ok (.lconst 0, 1) := by decide +kernel
theorem dX9_genus_3 : decode cX9_genus 3 = .ok (.ldc2_w 114, 3) := by decide +kernel
theorem dX9_genus_6 : decode cX9_genus 6 = .ok (.invokestatic 110, 3) := by decide +kernel
theorem dX9_genus_9 : decode cX9_genus 9 = .ok (.ifCond .ne 5, 3) := by decide +kernel
theorem dX9_genus_12 : decode cX9_genus 12 = .ok (.iconst (-1), 1) := by decide +kernel
theorem dX9_genus_13 : decode cX9_genus 13 = .ok (.ireturn, 1) := by decide +kernel
theorem dX9_genus_14 : decode cX9_genus 14 = .ok (.aload_n 0, 1) := by decide +kernel
theorem dX9_genus_15 : decode cX9_genus 15 = .ok (.getfield 88, 3) := by decide +kernel
theorem dX9_genus_18 : decode cX9_genus 18 = .ok (.istore_n 2, 1) := by decide +kernel
theorem dX9_genus_19 : decode cX9_genus 19 = .ok (.aload_n 0, 1) := by decide +kernel
theorem dX9_genus_20 : decode cX9_genus 20 = .ok (.invokevirtual 116, 3) := by decide +kernel
theorem dX9_genus_23 : decode cX9_genus 23 = .ok (.aload_n 0, 1) := by decide +kernel
theorem dX9_genus_24 : decode cX9_genus 24 = .ok (.iload_n 1, 1) := by decide +kernel
theorem dX9_genus_25 : decode cX9_genus 25 = .ok (.putfield 88, 3) := by decide +kernel
theorem dX9_genus_28 : decode cX9_genus 28 = .ok (.aload_n 0, 1) := by decide +kernel
theorem dX9_genus_29 : decode cX9_genus 29 = .ok (.invokevirtual 119, 3) := by decide +kernel
theorem dX9_genus_32 : decode cX9_genus 32 = .ok (.iload_n 2, 1) := by decide +kernel
theorem dX9_genus_33 : decode cX9_genus 33 = .ok (.ireturn, 1) := by decide +kernel
set_option maxRecDepth 20000 in
theorem ggX9_mark_X9_in : GoodIn wsX9_mark wsX9_in := goodIn_r _ [7] (by decide +kernel) (by decide +kernel)
set_option maxRecDepth 20000 in
theorem gX9_mark_X9_in : GoodIn wsX9_mark (va_wsS RX9 110 yX9_in wsX9_in) := goodIn_app (goodIn_of _ (by decide +kernel)) ggX9_mark_X9_in
set_option maxRecDepth 20000 in
theorem ggX9_mark_X9_begins : GoodIn wsX9_mark wsX9_begins := goodIn_r _ [11, 12, 13, 14, 15, 6, 16, 17, 2, 18, 19, 3, 20, 29, 30, 31, 32, 33, 34, 35, 36, 37, 38, 39, 40, 41, 42, 43, 44, 45, 46, 47, 48, 49, 50, 51, 52, 53, 54, 55, 56, 57, 58, 59, 60, 61, 62, 63, 64, 65, 66, 67, 68, 69, 70] (by decide +kernel) (by decide +kernel)
set_option maxRecDepth 20000 in
theorem gX9_mark_X9_begins : GoodIn wsX9_mark (wsV RX9 116 RX9 yX9_begins wsX9_begins) := goodIn_app (goodIn_of _ (by decide +kernel)) ggX9_mark_X9_begins
set_option maxRecDepth 20000 in
theorem ggX9_mark_X9_ends : GoodIn wsX9_mark wsX9_ends := goodIn_r _ [24, 25, 12, 26, 27, 28, 13, 14, 15, 6, 16, 17, 2, 18, 19, 3, 20, 29, 30, 31, 32, 33, 34, 35, 36, 37, 38, 39, 40, 41, 42, 43, 44, 45, 46, 47, 48, 49, 50, 51, 52, 53, 54, 55, 56, 57, 58, 59, 60, 61, 62, 63, 64, 65, 66, 67, 68, 69, 70] (by decide +kernel) (by decide +kernel)
set_option maxRecDepth 20000 in
theorem gX9_mark_X9_ends : GoodIn wsX9_mark (wsV RX9 119 RX9 yX9_ends wsX9_ends) := goodIn_app (goodIn_of _ (by decide +kernel)) ggX9_mark_X9_ends
theorem dX9_mark_0 : decode cX9_mark 0 = .ok (.iload_n 1, 1) := by decide +kernel
theorem dX9_mark_1 : decode cX9_mark 1 = .ok (.i2l, 1) := by decide +kernel
theorem dX9_mark_2 : decode cX9_mark 2 = .ok (.lconst 0, 1) := by decide +kernel
theorem dX9_mark_3 : decode cX9_mark 3 = .ok (.ldc2_w 122, 3) := by decide +kernel
theorem dX9_mark_6 : decode cX9_mark 6 = .ok (.invokestatic 110, 3) := by decide +kernel
theorem dX9_mark_9 : decode cX9_mark 9 = .ok (.ifCond .ne 5, 3) := by decide +kernel
theorem dX9_mark_12 : decode cX9_mark 12 = .ok (.iconst (-1), 1) := by decide +kernel
theorem dX9_mark_13 : decode cX9_mark 13 = .ok (.ireturn, 1) := by decide +kernel
theorem dX9_mark_14 : decode cX9_mark 14 = .ok (.aload_n 0, 1) := by decide +kernel
theorem dX9_mark_15 : decode cX9_mark 15 = .ok (.getfield 91, 3) := by decide +kernel
theorem dX9_mark_18 : decode cX9_mark 18 = .ok (.bipush 8, 2) := by decide +kernel
theorem dX9_mark_20 : decode cX9_mark 20 = .ok (.if_icmp .ne 6, 3) := by decide +kernel
theorem dX9_mark_23 : decode cX9_mark 23 = .ok (.bipush (-3), 2) := by decide +kernel
theorem dX9_mark_25 : decode cX9_mark 25 = .ok (.ireturn, 1) := by decide +kernel
theorem dX9_mark_26 : decode cX9_mark 26 = .ok (.aload_n 0, 1) := by decide +kernel
theorem dX9_mark_27 : decode cX9_mark 27 = .ok (.invokevirtual 116, 3) := by decide +kernel
theorem dX9_mark_30 : decode cX9_mark 30 = .ok (.aload_n 0, 1) := by decide +kernel
theorem dX9_mark_31 : decode cX9_mark 31 = .ok (.getfield 11, 3) := by decide +kernel
theorem dX9_mark_34 : decode cX9_mark 34 = .ok (.aload_n 0, 1) := by decide +kernel
theorem dX9_mark_35 : decode cX9_mark 35 = .ok (.getfield 91, 3) := by decide +kernel
theorem dX9_mark_38 : decode cX9_mark 38 = .ok (.iload_n 1, 1) := by decide +kernel
theorem dX9_mark_39 : decode cX9_mark 39 = .ok (.iastore, 1) := by decide +kernel
theorem dX9_mark_40 : decode cX9_mark 40 = .ok (.aload_n 0, 1) := by decide +kernel
theorem dX9_mark_41 : decode cX9_mark 41 = .ok (.dup, 1) := by decide +kernel
theorem dX9_mark_42 : decode cX9_mark 42 = .ok (.getfield 91, 3) := by decide +kernel
theorem dX9_mark_45 : decode cX9_mark 45 = .ok (.iconst 1, 1) := by decide +kernel
theorem dX9_mark_46 : decode cX9_mark 46 = .ok (.iadd, 1) := by decide +kernel
theorem dX9_mark_47 : decode cX9_mark 47 = .ok (.putfield 91, 3) := by decide +kernel
theorem dX9_mark_50 : decode cX9_mark 50 = .ok (.aload_n 0, 1) := by decide +kernel
theorem dX9_mark_51 : decode cX9_mark 51 = .ok (.invokevirtual 119, 3) := by decide +kernel
theorem dX9_mark_54 : decode cX9_mark 54 = .ok (.aload_n 0, 1) := by decide +kernel
theorem dX9_mark_55 : decode cX9_mark 55 = .ok (.getfield 91, 3) := by decide +kernel
theorem dX9_mark_58 : decode cX9_mark 58 = .ok (.ireturn, 1) := by decide +kernel
set_option maxRecDepth 20000 in
theorem ggX9_take_X9_isMark : GoodIn wsX9_take wsX9_isMark := goodIn_r _ [7, 1, 8, 9, 6, 10, 32, 33, 34, 35, 36, 37, 38, 39, 40, 41, 42, 43, 44, 45, 46, 47, 48, 49, 50, 51, 52, 53, 54, 55, 56, 57, 58, 59, 60, 61, 62, 63, 64, 65, 66, 67, 68, 69, 70, 71, 72, 73] (by decide +kernel) (by decide +kernel)
set_option maxRecDepth 20000 in
theorem gX9_take_X9_isMark : GoodIn wsX9_take (wsV RX9 124 RX9 yX9_isMark wsX9_isMark) := goodIn_app (goodIn_of _ (by decide +kernel)) ggX9_take_X9_isMark
set_option maxRecDepth 20000 in
theorem ggX9_take_X9_begins : GoodIn wsX9_take wsX9_begins := goodIn_r _ [14, 15, 16, 17, 18, 6, 19, 20, 1, 21, 22, 2, 23, 32, 33, 34, 35, 36, 37, 38, 39, 40, 41, 42, 43, 44, 45, 46, 47, 48, 49, 50, 51, 52, 53, 54, 55, 56, 57, 58, 59, 60, 61, 62, 63, 64, 65, 66, 67, 68, 69, 70, 71, 72, 73] (by decide +kernel) (by decide +kernel)
set_option maxRecDepth 20000 in
theorem gX9_take_X9_begins : GoodIn wsX9_take (wsV RX9 116 RX9 yX9_begins wsX9_begins) := goodIn_app (goodIn_of _ (by decide +kernel)) ggX9_take_X9_begins
set_option maxRecDepth 20000 in
theorem ggX9_take_X9_ends : GoodIn wsX9_take wsX9_ends := goodIn_r _ [27, 28, 15, 29, 30, 31, 16, 17, 18, 6, 19, 20, 1, 21, 22, 2, 23, 32, 33, 34, 35, 36, 37, 38, 39, 40, 41, 42, 43, 44, 45, 46, 47, 48, 49, 50, 51, 52, 53, 54, 55, 56, 57, 58, 59, 60, 61, 62, 63, 64, 65, 66, 67, 68, 69, 70, 71, 72, 73] (by decide +kernel) (by decide +kernel)
set_option maxRecDepth 20000 in
theorem gX9_take_X9_ends : GoodIn wsX9_take (wsV RX9 119 RX9 yX9_ends wsX9_ends) := goodIn_app (goodIn_of _ (by decide +kernel)) ggX9_take_X9_ends
theorem dX9_take_0 : decode cX9_take 0 = .ok (.aload_n 0, 1) := by decide +kernel
theorem dX9_take_1 : decode cX9_take 1 = .ok (.iload_n 1, 1) := by decide +kernel
theorem dX9_take_2 : decode cX9_take 2 = .ok (.invokevirtual 124, 3) := by decide +kernel
theorem dX9_take_5 : decode cX9_take 5 = .ok (.ifCond .ne 5, 3) := by decide +kernel
theorem dX9_take_8 : decode cX9_take 8 = .ok (.iconst (-1), 1) := by decide +kernel
theorem dX9_take_9 : decode cX9_take 9 = .ok (.ireturn, 1) := by decide +kernel
theorem dX9_take_10 : decode cX9_take 10 = .ok (.aload_n 0, 1) := by decide +kernel
theorem dX9_take_11 : decode cX9_take 11 = .ok (.invokevirtual 116, 3) := by decide +kernel
theorem dX9_take_14 : decode cX9_take 14 = .ok (.aload_n 0, 1) := by decide +kernel
theorem dX9_take_15 : decode cX9_take 15 = .ok (.dup, 1) := by decide +kernel
theorem dX9_take_16 : decode cX9_take 16 = .ok (.getfield 91, 3) := by decide +kernel
theorem dX9_take_19 : decode cX9_take 19 = .ok (.iconst 1, 1) := by decide +kernel
theorem dX9_take_20 : decode cX9_take 20 = .ok (.isub, 1) := by decide +kernel
theorem dX9_take_21 : decode cX9_take 21 = .ok (.putfield 91, 3) := by decide +kernel
theorem dX9_take_24 : decode cX9_take 24 = .ok (.iload_n 1, 1) := by decide +kernel
theorem dX9_take_25 : decode cX9_take 25 = .ok (.istore_n 2, 1) := by decide +kernel
theorem dX9_take_26 : decode cX9_take 26 = .ok (.iload_n 2, 1) := by decide +kernel
theorem dX9_take_27 : decode cX9_take 27 = .ok (.aload_n 0, 1) := by decide +kernel
theorem dX9_take_28 : decode cX9_take 28 = .ok (.getfield 91, 3) := by decide +kernel
theorem dX9_take_31 : decode cX9_take 31 = .ok (.if_icmp .ge 23, 3) := by decide +kernel
theorem dX9_take_34 : decode cX9_take 34 = .ok (.aload_n 0, 1) := by decide +kernel
theorem dX9_take_35 : decode cX9_take 35 = .ok (.getfield 11, 3) := by decide +kernel
theorem dX9_take_38 : decode cX9_take 38 = .ok (.iload_n 2, 1) := by decide +kernel
theorem dX9_take_39 : decode cX9_take 39 = .ok (.aload_n 0, 1) := by decide +kernel
theorem dX9_take_40 : decode cX9_take 40 = .ok (.getfield 11, 3) := by decide +kernel
theorem dX9_take_43 : decode cX9_take 43 = .ok (.iload_n 2, 1) := by decide +kernel
theorem dX9_take_44 : decode cX9_take 44 = .ok (.iconst 1, 1) := by decide +kernel
theorem dX9_take_45 : decode cX9_take 45 = .ok (.iadd, 1) := by decide +kernel
theorem dX9_take_46 : decode cX9_take 46 = .ok (.iaload, 1) := by decide +kernel
theorem dX9_take_47 : decode cX9_take 47 = .ok (.iastore, 1) := by decide +kernel
theorem dX9_take_48 : decode cX9_take 48 = .ok (.iinc 2 1, 3) := by decide +kernel
theorem dX9_take_51 : decode cX9_take 51 = .ok (.goto (-25), 3) := by decide +kernel
theorem dX9_take_54 : decode cX9_take 54 = .ok (.aload_n 0, 1) := by decide +kernel
theorem dX9_take_55 : decode cX9_take 55 = .ok (.invokevirtual 119, 3) := by decide +kernel
theorem dX9_take_58 : decode cX9_take 58 = .ok (.aload_n 0, 1) := by decide +kernel
theorem dX9_take_59 : decode cX9_take 59 = .ok (.getfield 91, 3) := by decide +kernel
theorem dX9_take_62 : decode cX9_take 62 = .ok (.ireturn, 1) := by decide +kernel
set_option maxRecDepth 20000 in
theorem ggX9_change_X9_isMark : GoodIn wsX9_change wsX9_isMark := goodIn_r _ [7, 8, 9, 10, 6, 11, 33, 34, 35, 36, 37, 38, 39, 40, 41, 42, 43, 44, 45, 46, 47, 48, 49, 50, 51, 52, 53, 54, 55, 56, 57, 58, 59, 60, 61, 62, 63, 64, 65, 66, 67, 68, 69, 70, 71, 72, 73, 74] (by decide +kernel) (by decide +kernel)
set_option maxRecDepth 20000 in
theorem gX9_change_X9_isMark : GoodIn wsX9_change (wsV RX9 124 RX9 yX9_isMark wsX9_isMark) := goodIn_app (goodIn_of _ (by decide +kernel)) ggX9_change_X9_isMark
set_option maxRecDepth 20000 in
theorem ggX9_change_X9_in : GoodIn wsX9_change wsX9_in := goodIn_r _ [11] (by decide +kernel) (by decide +kernel)
set_option maxRecDepth 20000 in
theorem gX9_change_X9_in : GoodIn wsX9_change (va_wsS RX9 110 yX9_in wsX9_in) := goodIn_app (goodIn_of _ (by decide +kernel)) ggX9_change_X9_in
set_option maxRecDepth 20000 in
theorem ggX9_change_X9_begins : GoodIn wsX9_change wsX9_begins := goodIn_r _ [15, 16, 17, 18, 19, 6, 20, 21, 8, 22, 23, 2, 24, 33, 34, 35, 36, 37, 38, 39, 40, 41, 42, 43, 44, 45, 46, 47, 48, 49, 50, 51, 52, 53, 54, 55, 56, 57, 58, 59, 60, 61, 62, 63, 64, 65, 66, 67, 68, 69, 70, 71, 72, 73, 74] (by decide +kernel) (by decide +kernel)
set_option maxRecDepth 20000 in
theorem gX9_change_X9_begins : GoodIn wsX9_change (wsV RX9 116 RX9 yX9_begins wsX9_begins) := goodIn_app (goodIn_of _ (by decide +kernel)) ggX9_change_X9_begins
set_option maxRecDepth 20000 in
theorem ggX9_change_X9_ends : GoodIn wsX9_change wsX9_ends := goodIn_r _ [28, 29, 16, 30, 31, 32, 17, 18, 19, 6, 20, 21, 8, 22, 23, 2, 24, 33, 34, 35, 36, 37, 38, 39, 40, 41, 42, 43, 44, 45, 46, 47, 48, 49, 50, 51, 52, 53, 54, 55, 56, 57, 58, 59, 60, 61, 62, 63, 64, 65, 66, 67, 68, 69, 70, 71, 72, 73, 74] (by decide +kernel) (by decide +kernel)
set_option maxRecDepth 20000 in
theorem gX9_change_X9_ends : GoodIn wsX9_change (wsV RX9 119 RX9 yX9_ends wsX9_ends) := goodIn_app (goodIn_of _ (by decide +kernel)) ggX9_change_X9_ends
theorem dX9_change_0 : decode cX9_change 0 = .ok (.aload_n 0, 1) := by decide +kernel
theorem dX9_change_1 : decode cX9_change 1 = .ok (.iload_n 1, 1) := by decide +kernel
theorem dX9_change_2 : decode cX9_change 2 = .ok (.invokevirtual 124, 3) := by decide +kernel
theorem dX9_change_5 : decode cX9_change 5 = .ok (.ifCond .eq 15, 3) := by decide +kernel
theorem dX9_change_8 : decode cX9_change 8 = .ok (.iload_n 2, 1) := by decide +kernel
theorem dX9_change_9 : decode cX9_change 9 = .ok (.i2l, 1) := by decide +kernel
theorem dX9_change_10 : decode cX9_change 10 = .ok (.lconst 0, 1) := by decide +kernel
theorem dX9_change_11 : decode cX9_change 11 = .ok (.ldc2_w 122, 3) := by decide +kernel
theorem dX9_change_14 : decode cX9_change 14 = .ok (.invokestatic 110, 3) := by decide +kernel
theorem dX9_change_17 : decode cX9_change 17 = .ok (.ifCond .ne 5, 3) := by decide +kernel
theorem dX9_change_20 : decode cX9_change 20 = .ok (.iconst (-1), 1) := by decide +kernel
theorem dX9_change_21 : decode cX9_change 21 = .ok (.ireturn, 1) := by decide +kernel
theorem dX9_change_22 : decode cX9_change 22 = .ok (.aload_n 0, 1) := by decide +kernel
theorem dX9_change_23 : decode cX9_change 23 = .ok (.getfield 11, 3) := by decide +kernel
theorem dX9_change_26 : decode cX9_change 26 = .ok (.iload_n 1, 1) := by decide +kernel
theorem dX9_change_27 : decode cX9_change 27 = .ok (.iaload, 1) := by decide +kernel
theorem dX9_change_28 : decode cX9_change 28 = .ok (.istore_n 3, 1) := by decide +kernel
theorem dX9_change_29 : decode cX9_change 29 = .ok (.aload_n 0, 1) := by decide +kernel
theorem dX9_change_30 : decode cX9_change 30 = .ok (.invokevirtual 116, 3) := by decide +kernel
theorem dX9_change_33 : decode cX9_change 33 = .ok (.aload_n 0, 1) := by decide +kernel
theorem dX9_change_34 : decode cX9_change 34 = .ok (.getfield 11, 3) := by decide +kernel
theorem dX9_change_37 : decode cX9_change 37 = .ok (.iload_n 1, 1) := by decide +kernel
theorem dX9_change_38 : decode cX9_change 38 = .ok (.iload_n 2, 1) := by decide +kernel
theorem dX9_change_39 : decode cX9_change 39 = .ok (.iastore, 1) := by decide +kernel
theorem dX9_change_40 : decode cX9_change 40 = .ok (.aload_n 0, 1) := by decide +kernel
theorem dX9_change_41 : decode cX9_change 41 = .ok (.invokevirtual 119, 3) := by decide +kernel
theorem dX9_change_44 : decode cX9_change 44 = .ok (.iload_n 3, 1) := by decide +kernel
theorem dX9_change_45 : decode cX9_change 45 = .ok (.ireturn, 1) := by decide +kernel
theorem dX9_sorts_0 : decode cX9_sorts 0 = .ok (.iconst 1, 1) := by decide +kernel
theorem dX9_sorts_1 : decode cX9_sorts 1 = .ok (.istore_n 3, 1) := by decide +kernel
theorem dX9_sorts_2 : decode cX9_sorts 2 = .ok (.iload_n 3, 1) := by decide +kernel
theorem dX9_sorts_3 : decode cX9_sorts 3 = .ok (.iload_n 1, 1) := by decide +kernel
theorem dX9_sorts_4 : decode cX9_sorts 4 = .ok (.if_icmp .ge 64, 3) := by decide +kernel
theorem dX9_sorts_7 : decode cX9_sorts 7 = .ok (.iload_n 3, 1) := by decide +kernel
theorem dX9_sorts_8 : decode cX9_sorts 8 = .ok (.istore 4, 2) := by decide +kernel
theorem dX9_sorts_10 : decode cX9_sorts 10 = .ok (.iload 4, 2) := by decide +kernel
theorem dX9_sorts_12 : decode cX9_sorts 12 = .ok (.ifCond .le 50, 3) := by decide +kernel
theorem dX9_sorts_15 : decode cX9_sorts 15 = .ok (.iload_n 2, 1) := by decide +kernel
theorem dX9_sorts_16 : decode cX9_sorts 16 = .ok (.aload_n 0, 1) := by decide +kernel
theorem dX9_sorts_17 : decode cX9_sorts 17 = .ok (.iload 4, 2) := by decide +kernel
theorem dX9_sorts_19 : decode cX9_sorts 19 = .ok (.iconst 1, 1) := by decide +kernel
theorem dX9_sorts_20 : decode cX9_sorts 20 = .ok (.isub, 1) := by decide +kernel
theorem dX9_sorts_21 : decode cX9_sorts 21 = .ok (.iaload, 1) := by decide +kernel
theorem dX9_sorts_22 : decode cX9_sorts 22 = .ok (.imul, 1) := by decide +kernel
theorem dX9_sorts_23 : decode cX9_sorts 23 = .ok (.iload_n 2, 1) := by decide +kernel
theorem dX9_sorts_24 : decode cX9_sorts 24 = .ok (.aload_n 0, 1) := by decide +kernel
theorem dX9_sorts_25 : decode cX9_sorts 25 = .ok (.iload 4, 2) := by decide +kernel
theorem dX9_sorts_27 : decode cX9_sorts 27 = .ok (.iaload, 1) := by decide +kernel
theorem dX9_sorts_28 : decode cX9_sorts 28 = .ok (.imul, 1) := by decide +kernel
theorem dX9_sorts_29 : decode cX9_sorts 29 = .ok (.if_icmp .le 33, 3) := by decide +kernel
theorem dX9_sorts_32 : decode cX9_sorts 32 = .ok (.aload_n 0, 1) := by decide +kernel
theorem dX9_sorts_33 : decode cX9_sorts 33 = .ok (.iload 4, 2) := by decide +kernel
theorem dX9_sorts_35 : decode cX9_sorts 35 = .ok (.iaload, 1) := by decide +kernel
theorem dX9_sorts_36 : decode cX9_sorts 36 = .ok (.istore 5, 2) := by decide +kernel
theorem dX9_sorts_38 : decode cX9_sorts 38 = .ok (.aload_n 0, 1) := by decide +kernel
theorem dX9_sorts_39 : decode cX9_sorts 39 = .ok (.iload 4, 2) := by decide +kernel
theorem dX9_sorts_41 : decode cX9_sorts 41 = .ok (.aload_n 0, 1) := by decide +kernel
theorem dX9_sorts_42 : decode cX9_sorts 42 = .ok (.iload 4, 2) := by decide +kernel
theorem dX9_sorts_44 : decode cX9_sorts 44 = .ok (.iconst 1, 1) := by decide +kernel
theorem dX9_sorts_45 : decode cX9_sorts 45 = .ok (.isub, 1) := by decide +kernel
theorem dX9_sorts_46 : decode cX9_sorts 46 = .ok (.iaload, 1) := by decide +kernel
theorem dX9_sorts_47 : decode cX9_sorts 47 = .ok (.iastore, 1) := by decide +kernel
theorem dX9_sorts_48 : decode cX9_sorts 48 = .ok (.aload_n 0, 1) := by decide +kernel
theorem dX9_sorts_49 : decode cX9_sorts 49 = .ok (.iload 4, 2) := by decide +kernel
theorem dX9_sorts_51 : decode cX9_sorts 51 = .ok (.iconst 1, 1) := by decide +kernel
theorem dX9_sorts_52 : decode cX9_sorts 52 = .ok (.isub, 1) := by decide +kernel
theorem dX9_sorts_53 : decode cX9_sorts 53 = .ok (.iload 5, 2) := by decide +kernel
theorem dX9_sorts_55 : decode cX9_sorts 55 = .ok (.iastore, 1) := by decide +kernel
theorem dX9_sorts_56 : decode cX9_sorts 56 = .ok (.iinc 4 (-1), 3) := by decide +kernel
theorem dX9_sorts_59 : decode cX9_sorts 59 = .ok (.goto (-49), 3) := by decide +kernel
theorem dX9_sorts_62 : decode cX9_sorts 62 = .ok (.iinc 3 1, 3) := by decide +kernel
theorem dX9_sorts_65 : decode cX9_sorts 65 = .ok (.goto (-63), 3) := by decide +kernel
theorem dX9_sorts_68 : decode cX9_sorts 68 = .ok (.return_, 1) := by decide +kernel
set_option maxRecDepth 20000 in
theorem ggX9_order_X9_in : GoodIn wsX9_order wsX9_in := goodIn_r _ [8] (by decide +kernel) (by decide +kernel)
set_option maxRecDepth 20000 in
theorem gX9_order_X9_in : GoodIn wsX9_order (va_wsS RX9 110 yX9_in wsX9_in) := goodIn_app (goodIn_of _ (by decide +kernel)) ggX9_order_X9_in
set_option maxRecDepth 20000 in
theorem ggX9_order_X9_begins : GoodIn wsX9_order wsX9_begins := goodIn_r _ [12, 4, 13, 14, 15, 7, 16, 17, 3, 18, 19, 2, 20, 32, 33, 34, 35, 36, 37, 38, 39, 40, 41, 42, 43, 44, 45, 46, 47, 48, 49, 50, 51, 52, 53, 54, 55, 56, 57, 58, 59, 60, 61, 62, 63, 64, 65, 66, 67, 68, 69, 70, 71, 72, 73] (by decide +kernel) (by decide +kernel)
set_option maxRecDepth 20000 in
theorem gX9_order_X9_begins : GoodIn wsX9_order (wsV RX9 116 RX9 yX9_begins wsX9_begins) := goodIn_app (goodIn_of _ (by decide +kernel)) ggX9_order_X9_begins
set_option maxRecDepth 20000 in
theorem ggX9_order_X9_sorts : GoodIn wsX9_order wsX9_sorts := goodIn_r _ [23] (by decide +kernel) (by decide +kernel)
set_option maxRecDepth 20000 in
theorem gX9_order_X9_sorts : GoodIn wsX9_order (va_wsS RX9 130 yX9_sorts wsX9_sorts) := goodIn_app (goodIn_of _ (by decide +kernel)) ggX9_order_X9_sorts
set_option maxRecDepth 20000 in
theorem ggX9_order_X9_ends : GoodIn wsX9_order wsX9_ends := goodIn_r _ [27, 28, 4, 29, 30, 31, 13, 14, 15, 7, 16, 17, 3, 18, 19, 2, 20, 32, 33, 34, 35, 36, 37, 38, 39, 40, 41, 42, 43, 44, 45, 46, 47, 48, 49, 50, 51, 52, 53, 54, 55, 56, 57, 58, 59, 60, 61, 62, 63, 64, 65, 66, 67, 68, 69, 70, 71, 72, 73] (by decide +kernel) (by decide +kernel)
set_option maxRecDepth 20000 in
theorem gX9_order_X9_ends : GoodIn wsX9_order (wsV RX9 119 RX9 yX9_ends wsX9_ends) := goodIn_app (goodIn_of _ (by decide +kernel)) ggX9_order_X9_ends
theorem dX9_order_0 : decode cX9_order 0 = .ok (.iload_n 1, 1) := by decide +kernel
theorem dX9_order_1 : decode cX9_order 1 = .ok (.i2l, 1) := by decide +kernel
theorem dX9_order_2 : decode cX9_order 2 = .ok (.lconst 0, 1) := by decide +kernel
theorem dX9_order_3 : decode cX9_order 3 = .ok (.ldc2_w 128, 3) := by decide +kernel
theorem dX9_order_6 : decode cX9_order 6 = .ok (.invokestatic 110, 3) := by decide +kernel
theorem dX9_order_9 : decode cX9_order 9 = .ok (.ifCond .ne 5, 3) := by decide +kernel
theorem dX9_order_12 : decode cX9_order 12 = .ok (.iconst (-1), 1) := by decide +kernel
theorem dX9_order_13 : decode cX9_order 13 = .ok (.ireturn, 1) := by decide +kernel
theorem dX9_order_14 : decode cX9_order 14 = .ok (.aload_n 0, 1) := by decide +kernel
theorem dX9_order_15 : decode cX9_order 15 = .ok (.invokevirtual 116, 3) := by decide +kernel
theorem dX9_order_18 : decode cX9_order 18 = .ok (.iload_n 1, 1) := by decide +kernel
theorem dX9_order_19 : decode cX9_order 19 = .ok (.iconst 2, 1) := by decide +kernel
theorem dX9_order_20 : decode cX9_order 20 = .ok (.if_icmp .ge 26, 3) := by decide +kernel
theorem dX9_order_23 : decode cX9_order 23 = .ok (.aload_n 0, 1) := by decide +kernel
theorem dX9_order_24 : decode cX9_order 24 = .ok (.getfield 11, 3) := by decide +kernel
theorem dX9_order_27 : decode cX9_order 27 = .ok (.aload_n 0, 1) := by decide +kernel
theorem dX9_order_28 : decode cX9_order 28 = .ok (.getfield 91, 3) := by decide +kernel
theorem dX9_order_31 : decode cX9_order 31 = .ok (.iload_n 1, 1) := by decide +kernel
theorem dX9_order_32 : decode cX9_order 32 = .ok (.ifCond .ne 7, 3) := by decide +kernel
theorem dX9_order_35 : decode cX9_order 35 = .ok (.iconst 1, 1) := by decide +kernel
theorem dX9_order_36 : decode cX9_order 36 = .ok (.goto 4, 3) := by decide +kernel
theorem dX9_order_39 : decode cX9_order 39 = .ok (.iconst (-1), 1) := by decide +kernel
theorem dX9_order_40 : decode cX9_order 40 = .ok (.invokestatic 130, 3) := by decide +kernel
theorem dX9_order_43 : decode cX9_order 43 = .ok (.goto 56, 3) := by decide +kernel
theorem dX9_order_46 : decode cX9_order 46 = .ok (.iconst 0, 1) := by decide +kernel
theorem dX9_order_47 : decode cX9_order 47 = .ok (.istore_n 2, 1) := by decide +kernel
theorem dX9_order_48 : decode cX9_order 48 = .ok (.iload_n 2, 1) := by decide +kernel
theorem dX9_order_49 : decode cX9_order 49 = .ok (.aload_n 0, 1) := by decide +kernel
theorem dX9_order_50 : decode cX9_order 50 = .ok (.getfield 91, 3) := by decide +kernel
theorem dX9_order_53 : decode cX9_order 53 = .ok (.if_icmp .ge 46, 3) := by decide +kernel
theorem dX9_order_56 : decode cX9_order 56 = .ok (.aload_n 0, 1) := by decide +kernel
theorem dX9_order_57 : decode cX9_order 57 = .ok (.getfield 11, 3) := by decide +kernel
theorem dX9_order_60 : decode cX9_order 60 = .ok (.iload_n 2, 1) := by decide +kernel
theorem dX9_order_61 : decode cX9_order 61 = .ok (.aload_n 0, 1) := by decide +kernel
theorem dX9_order_62 : decode cX9_order 62 = .ok (.getfield 28, 3) := by decide +kernel
theorem dX9_order_65 : decode cX9_order 65 = .ok (.iconst 4, 1) := by decide +kernel
theorem dX9_order_66 : decode cX9_order 66 = .ok (.iload_n 1, 1) := by decide +kernel
theorem dX9_order_67 : decode cX9_order 67 = .ok (.iconst 2, 1) := by decide +kernel
theorem dX9_order_68 : decode cX9_order 68 = .ok (.if_icmp .ne 14, 3) := by decide +kernel
theorem dX9_order_71 : decode cX9_order 71 = .ok (.aload_n 0, 1) := by decide +kernel
theorem dX9_order_72 : decode cX9_order 72 = .ok (.getfield 91, 3) := by decide +kernel
theorem dX9_order_75 : decode cX9_order 75 = .ok (.iconst 1, 1) := by decide +kernel
theorem dX9_order_76 : decode cX9_order 76 = .ok (.isub, 1) := by decide +kernel
theorem dX9_order_77 : decode cX9_order 77 = .ok (.iload_n 2, 1) := by decide +kernel
theorem dX9_order_78 : decode cX9_order 78 = .ok (.isub, 1) := by decide +kernel
theorem dX9_order_79 : decode cX9_order 79 = .ok (.goto 11, 3) := by decide +kernel
theorem dX9_order_82 : decode cX9_order 82 = .ok (.iload_n 2, 1) := by decide +kernel
theorem dX9_order_83 : decode cX9_order 83 = .ok (.iconst 1, 1) := by decide +kernel
theorem dX9_order_84 : decode cX9_order 84 = .ok (.iadd, 1) := by decide +kernel
theorem dX9_order_85 : decode cX9_order 85 = .ok (.aload_n 0, 1) := by decide +kernel
theorem dX9_order_86 : decode cX9_order 86 = .ok (.getfield 91, 3) := by decide +kernel
theorem dX9_order_89 : decode cX9_order 89 = .ok (.irem, 1) := by decide +kernel
theorem dX9_order_90 : decode cX9_order 90 = .ok (.iadd, 1) := by decide +kernel
theorem dX9_order_91 : decode cX9_order 91 = .ok (.iaload, 1) := by decide +kernel
theorem dX9_order_92 : decode cX9_order 92 = .ok (.iastore, 1) := by decide +kernel
theorem dX9_order_93 : decode cX9_order 93 = .ok (.iinc 2 1, 3) := by decide +kernel
theorem dX9_order_96 : decode cX9_order 96 = .ok (.goto (-48), 3) := by decide +kernel
theorem dX9_order_99 : decode cX9_order 99 = .ok (.iconst 0, 1) := by decide +kernel
theorem dX9_order_100 : decode cX9_order 100 = .ok (.istore_n 2, 1) := by decide +kernel
theorem dX9_order_101 : decode cX9_order 101 = .ok (.iconst 0, 1) := by decide +kernel
theorem dX9_order_102 : decode cX9_order 102 = .ok (.istore_n 3, 1) := by decide +kernel
theorem dX9_order_103 : decode cX9_order 103 = .ok (.iload_n 3, 1) := by decide +kernel
theorem dX9_order_104 : decode cX9_order 104 = .ok (.aload_n 0, 1) := by decide +kernel
theorem dX9_order_105 : decode cX9_order 105 = .ok (.getfield 91, 3) := by decide +kernel
theorem dX9_order_108 : decode cX9_order 108 = .ok (.if_icmp .ge 34, 3) := by decide +kernel
theorem dX9_order_111 : decode cX9_order 111 = .ok (.iload_n 2, 1) := by decide +kernel
theorem dX9_order_112 : decode cX9_order 112 = .ok (.aload_n 0, 1) := by decide +kernel
theorem dX9_order_113 : decode cX9_order 113 = .ok (.getfield 11, 3) := by decide +kernel
theorem dX9_order_116 : decode cX9_order 116 = .ok (.iload_n 3, 1) := by decide +kernel
theorem dX9_order_117 : decode cX9_order 117 = .ok (.iaload, 1) := by decide +kernel
theorem dX9_order_118 : decode cX9_order 118 = .ok (.aload_n 0, 1) := by decide +kernel
theorem dX9_order_119 : decode cX9_order 119 = .ok (.getfield 28, 3) := by decide +kernel
theorem dX9_order_122 : decode cX9_order 122 = .ok (.iconst 4, 1) := by decide +kernel
theorem dX9_order_123 : decode cX9_order 123 = .ok (.iload_n 3, 1) := by decide +kernel
theorem dX9_order_124 : decode cX9_order 124 = .ok (.iadd, 1) := by decide +kernel
theorem dX9_order_125 : decode cX9_order 125 = .ok (.iaload, 1) := by decide +kernel
theorem dX9_order_126 : decode cX9_order 126 = .ok (.if_icmp .ne 7, 3) := by decide +kernel
theorem dX9_order_129 : decode cX9_order 129 = .ok (.iconst 0, 1) := by decide +kernel
theorem dX9_order_130 : decode cX9_order 130 = .ok (.goto 4, 3) := by decide +kernel
theorem dX9_order_133 : decode cX9_order 133 = .ok (.iconst 1, 1) := by decide +kernel
theorem dX9_order_134 : decode cX9_order 134 = .ok (.iadd, 1) := by decide +kernel
theorem dX9_order_135 : decode cX9_order 135 = .ok (.istore_n 2, 1) := by decide +kernel
theorem dX9_order_136 : decode cX9_order 136 = .ok (.iinc 3 1, 3) := by decide +kernel
theorem dX9_order_139 : decode cX9_order 139 = .ok (.goto (-36), 3) := by decide +kernel
theorem dX9_order_142 : decode cX9_order 142 = .ok (.aload_n 0, 1) := by decide +kernel
theorem dX9_order_143 : decode cX9_order 143 = .ok (.invokevirtual 119, 3) := by decide +kernel
theorem dX9_order_146 : decode cX9_order 146 = .ok (.iload_n 2, 1) := by decide +kernel
theorem dX9_order_147 : decode cX9_order 147 = .ok (.ireturn, 1) := by decide +kernel
set_option maxRecDepth 20000 in
theorem ggX9_of_X9_isMark : GoodIn wsX9_of wsX9_isMark := goodIn_r _ [6, 7, 8, 9, 5, 10, 11, 12, 13, 14, 15, 16, 17, 18, 19, 20, 21, 22, 23, 24, 25, 26, 27, 28, 29, 30, 31, 32, 33, 34, 35, 36, 37, 38, 39, 40, 41, 42, 43, 44, 45, 46, 47, 48, 49, 50, 51, 52] (by decide +kernel) (by decide +kernel)
set_option maxRecDepth 20000 in
theorem gX9_of_X9_isMark : GoodIn wsX9_of (wsV RX9 124 RX9 yX9_isMark wsX9_isMark) := goodIn_app (goodIn_of _ (by decide +kernel)) ggX9_of_X9_isMark
theorem dX9_of_0 : decode cX9_of 0 = .ok (.aload_n 0, 1) := by decide +kernel
theorem dX9_of_1 : decode cX9_of 1 = .ok (.iload_n 1, 1) := by decide +kernel
theorem dX9_of_2 : decode cX9_of 2 = .ok (.invokevirtual 124, 3) := by decide +kernel
theorem dX9_of_5 : decode cX9_of 5 = .ok (.ifCond .eq 12, 3) := by decide +kernel
theorem dX9_of_8 : decode cX9_of 8 = .ok (.aload_n 0, 1) := by decide +kernel
theorem dX9_of_9 : decode cX9_of 9 = .ok (.getfield 11, 3) := by decide +kernel
theorem dX9_of_12 : decode cX9_of 12 = .ok (.iload_n 1, 1) := by decide +kernel
theorem dX9_of_13 : decode cX9_of 13 = .ok (.iaload, 1) := by decide +kernel
theorem dX9_of_14 : decode cX9_of 14 = .ok (.goto 4, 3) := by decide +kernel
theorem dX9_of_17 : decode cX9_of 17 = .ok (.iconst (-1), 1) := by decide +kernel
theorem dX9_of_18 : decode cX9_of 18 = .ok (.ireturn, 1) := by decide +kernel
theorem dX9_line_0 : decode cX9_line 0 = .ok (.iload_n 0, 1) := by decide +kernel
theorem dX9_line_1 : decode cX9_line 1 = .ok (.ifCond .ne 7, 3) := by decide +kernel
theorem dX9_line_4 : decode cX9_line 4 = .ok (.lconst 1, 1) := by decide +kernel
theorem dX9_line_5 : decode cX9_line 5 = .ok (.goto 17, 3) := by decide +kernel
theorem dX9_line_8 : decode cX9_line 8 = .ok (.iload_n 0, 1) := by decide +kernel
theorem dX9_line_9 : decode cX9_line 9 = .ok (.iconst 1, 1) := by decide +kernel
theorem dX9_line_10 : decode cX9_line 10 = .ok (.if_icmp .ne 9, 3) := by decide +kernel
theorem dX9_line_13 : decode cX9_line 13 = .ok (.ldc2_w 134, 3) := by decide +kernel
theorem dX9_line_16 : decode cX9_line 16 = .ok (.goto 6, 3) := by decide +kernel
theorem dX9_line_19 : decode cX9_line 19 = .ok (.ldc2_w 136, 3) := by decide +kernel
theorem dX9_line_22 : decode cX9_line 22 = .ok (.lreturn, 1) := by decide +kernel
theorem dX9_isNothing_0 : decode cX9_isNothing 0 = .ok (.iconst 0, 1) := by decide +kernel
theorem dX9_isNothing_1 : decode cX9_isNothing 1 = .ok (.istore 4, 2) := by decide +kernel
theorem dX9_isNothing_3 : decode cX9_isNothing 3 = .ok (.iconst 0, 1) := by decide +kernel
theorem dX9_isNothing_4 : decode cX9_isNothing 4 = .ok (.istore 5, 2) := by decide +kernel
theorem dX9_isNothing_6 : decode cX9_isNothing 6 = .ok (.iload 5, 2) := by decide +kernel
theorem dX9_isNothing_8 : decode cX9_isNothing 8 = .ok (.iload_n 3, 1) := by decide +kernel
theorem dX9_isNothing_9 : decode cX9_isNothing 9 = .ok (.if_icmp .ge 20, 3) := by decide +kernel
theorem dX9_isNothing_12 : decode cX9_isNothing 12 = .ok (.iload 4, 2) := by decide +kernel
theorem dX9_isNothing_14 : decode cX9_isNothing 14 = .ok (.aload_n 1, 1) := by decide +kernel
theorem dX9_isNothing_15 : decode cX9_isNothing 15 = .ok (.iload_n 2, 1) := by decide +kernel
theorem dX9_isNothing_16 : decode cX9_isNothing 16 = .ok (.iload 5, 2) := by decide +kernel
theorem dX9_isNothing_18 : decode cX9_isNothing 18 = .ok (.iadd, 1) := by decide +kernel
theorem dX9_isNothing_19 : decode cX9_isNothing 19 = .ok (.iaload, 1) := by decide +kernel
theorem dX9_isNothing_20 : decode cX9_isNothing 20 = .ok (.iadd, 1) := by decide +kernel
theorem dX9_isNothing_21 : decode cX9_isNothing 21 = .ok (.istore 4, 2) := by decide +kernel
theorem dX9_isNothing_23 : decode cX9_isNothing 23 = .ok (.iinc 5 1, 3) := by decide +kernel
theorem dX9_isNothing_26 : decode cX9_isNothing 26 = .ok (.goto (-20), 3) := by decide +kernel
theorem dX9_isNothing_29 : decode cX9_isNothing 29 = .ok (.iconst 2, 1) := by decide +kernel
theorem dX9_isNothing_30 : decode cX9_isNothing 30 = .ok (.iload_n 0, 1) := by decide +kernel
theorem dX9_isNothing_31 : decode cX9_isNothing 31 = .ok (.imul, 1) := by decide +kernel
theorem dX9_isNothing_32 : decode cX9_isNothing 32 = .ok (.iconst 2, 1) := by decide +kernel
theorem dX9_isNothing_33 : decode cX9_isNothing 33 = .ok (.isub, 1) := by decide +kernel
theorem dX9_isNothing_34 : decode cX9_isNothing 34 = .ok (.iload_n 3, 1) := by decide +kernel
theorem dX9_isNothing_35 : decode cX9_isNothing 35 = .ok (.iadd, 1) := by decide +kernel
theorem dX9_isNothing_36 : decode cX9_isNothing 36 = .ok (.ifCond .le 15, 3) := by decide +kernel
theorem dX9_isNothing_39 : decode cX9_isNothing 39 = .ok (.iload 4, 2) := by decide +kernel
theorem dX9_isNothing_41 : decode cX9_isNothing 41 = .ok (.iconst 3, 1) := by decide +kernel
theorem dX9_isNothing_42 : decode cX9_isNothing 42 = .ok (.iload_n 0, 1) := by decide +kernel
theorem dX9_isNothing_43 : decode cX9_isNothing 43 = .ok (.imul, 1) := by decide +kernel
theorem dX9_isNothing_44 : decode cX9_isNothing 44 = .ok (.iconst 3, 1) := by decide +kernel
theorem dX9_isNothing_45 : decode cX9_isNothing 45 = .ok (.isub, 1) := by decide +kernel
theorem dX9_isNothing_46 : decode cX9_isNothing 46 = .ok (.iload_n 3, 1) := by decide +kernel
theorem dX9_isNothing_47 : decode cX9_isNothing 47 = .ok (.iadd, 1) := by decide +kernel
theorem dX9_isNothing_48 : decode cX9_isNothing 48 = .ok (.if_icmp .eq 7, 3) := by decide +kernel
theorem dX9_isNothing_51 : decode cX9_isNothing 51 = .ok (.iconst 1, 1) := by decide +kernel
theorem dX9_isNothing_52 : decode cX9_isNothing 52 = .ok (.goto 4, 3) := by decide +kernel
theorem dX9_isNothing_55 : decode cX9_isNothing 55 = .ok (.iconst 0, 1) := by decide +kernel
theorem dX9_isNothing_56 : decode cX9_isNothing 56 = .ok (.ireturn, 1) := by decide +kernel
theorem dX9_often_0 : decode cX9_often 0 = .ok (.iconst 0, 1) := by decide +kernel
theorem dX9_often_1 : decode cX9_often 1 = .ok (.istore 4, 2) := by decide +kernel
theorem dX9_often_3 : decode cX9_often 3 = .ok (.iconst 0, 1) := by decide +kernel
theorem dX9_often_4 : decode cX9_often 4 = .ok (.istore 5, 2) := by decide +kernel
theorem dX9_often_6 : decode cX9_often 6 = .ok (.iload 5, 2) := by decide +kernel
theorem dX9_often_8 : decode cX9_often 8 = .ok (.iload_n 2, 1) := by decide +kernel
theorem dX9_often_9 : decode cX9_often 9 = .ok (.if_icmp .ge 29, 3) := by decide +kernel
theorem dX9_often_12 : decode cX9_often 12 = .ok (.iload 4, 2) := by decide +kernel
theorem dX9_often_14 : decode cX9_often 14 = .ok (.aload_n 0, 1) := by decide +kernel
theorem dX9_often_15 : decode cX9_often 15 = .ok (.iload_n 1, 1) := by decide +kernel
theorem dX9_often_16 : decode cX9_often 16 = .ok (.iload 5, 2) := by decide +kernel
theorem dX9_often_18 : decode cX9_often 18 = .ok (.iadd, 1) := by decide +kernel
theorem dX9_often_19 : decode cX9_often 19 = .ok (.iaload, 1) := by decide +kernel
theorem dX9_often_20 : decode cX9_often 20 = .ok (.iload_n 3, 1) := by decide +kernel
theorem dX9_often_21 : decode cX9_often 21 = .ok (.if_icmp .ne 7, 3) := by decide +kernel
theorem dX9_often_24 : decode cX9_often 24 = .ok (.iconst 1, 1) := by decide +kernel
theorem dX9_often_25 : decode cX9_often 25 = .ok (.goto 4, 3) := by decide +kernel
theorem dX9_often_28 : decode cX9_often 28 = .ok (.iconst 0, 1) := by decide +kernel
theorem dX9_often_29 : decode cX9_often 29 = .ok (.iadd, 1) := by decide +kernel
theorem dX9_often_30 : decode cX9_often 30 = .ok (.istore 4, 2) := by decide +kernel
theorem dX9_often_32 : decode cX9_often 32 = .ok (.iinc 5 1, 3) := by decide +kernel
theorem dX9_often_35 : decode cX9_often 35 = .ok (.goto (-29), 3) := by decide +kernel
theorem dX9_often_38 : decode cX9_often 38 = .ok (.iload 4, 2) := by decide +kernel
theorem dX9_often_40 : decode cX9_often 40 = .ok (.ireturn, 1) := by decide +kernel
set_option maxRecDepth 20000 in
theorem ggX9_base_X9_often : GoodIn wsX9_base wsX9_often := goodIn_r _ [8] (by decide +kernel) (by decide +kernel)
set_option maxRecDepth 20000 in
theorem gX9_base_X9_often : GoodIn wsX9_base (va_wsS RX9 138 yX9_often wsX9_often) := goodIn_app (goodIn_of _ (by decide +kernel)) ggX9_base_X9_often
theorem dX9_base_0 : decode cX9_base 0 = .ok (.iload_n 0, 1) := by decide +kernel
theorem dX9_base_1 : decode cX9_base 1 = .ok (.ifCond .ne 27, 3) := by decide +kernel
theorem dX9_base_4 : decode cX9_base 4 = .ok (.iload_n 3, 1) := by decide +kernel
theorem dX9_base_5 : decode cX9_base 5 = .ok (.iconst 3, 1) := by decide +kernel
theorem dX9_base_6 : decode cX9_base 6 = .ok (.if_icmp .ne 18, 3) := by decide +kernel
theorem dX9_base_9 : decode cX9_base 9 = .ok (.aload_n 1, 1) := by decide +kernel
theorem dX9_base_10 : decode cX9_base 10 = .ok (.iload_n 2, 1) := by decide +kernel
theorem dX9_base_11 : decode cX9_base 11 = .ok (.iload_n 3, 1) := by decide +kernel
theorem dX9_base_12 : decode cX9_base 12 = .ok (.iconst 0, 1) := by decide +kernel
theorem dX9_base_13 : decode cX9_base 13 = .ok (.invokestatic 138, 3) := by decide +kernel
theorem dX9_base_16 : decode cX9_base 16 = .ok (.iconst 3, 1) := by decide +kernel
theorem dX9_base_17 : decode cX9_base 17 = .ok (.if_icmp .ne 7, 3) := by decide +kernel
theorem dX9_base_20 : decode cX9_base 20 = .ok (.lconst 1, 1) := by decide +kernel
theorem dX9_base_21 : decode cX9_base 21 = .ok (.goto 6, 3) := by decide +kernel
theorem dX9_base_24 : decode cX9_base 24 = .ok (.ldc2_w 142, 3) := by decide +kernel
theorem dX9_base_27 : decode cX9_base 27 = .ok (.lreturn, 1) := by decide +kernel
theorem dX9_base_28 : decode cX9_base 28 = .ok (.iload_n 0, 1) := by decide +kernel
theorem dX9_base_29 : decode cX9_base 29 = .ok (.iconst 1, 1) := by decide +kernel
theorem dX9_base_30 : decode cX9_base 30 = .ok (.if_icmp .ne 23, 3) := by decide +kernel
theorem dX9_base_33 : decode cX9_base 33 = .ok (.iload_n 3, 1) := by decide +kernel
theorem dX9_base_34 : decode cX9_base 34 = .ok (.iconst 1, 1) := by decide +kernel
theorem dX9_base_35 : decode cX9_base 35 = .ok (.if_icmp .ne 14, 3) := by decide +kernel
theorem dX9_base_38 : decode cX9_base 38 = .ok (.aload_n 1, 1) := by decide +kernel
theorem dX9_base_39 : decode cX9_base 39 = .ok (.iload_n 2, 1) := by decide +kernel
theorem dX9_base_40 : decode cX9_base 40 = .ok (.iaload, 1) := by decide +kernel
theorem dX9_base_41 : decode cX9_base 41 = .ok (.iconst 1, 1) := by decide +kernel
theorem dX9_base_42 : decode cX9_base 42 = .ok (.if_icmp .ne 7, 3) := by decide +kernel
theorem dX9_base_45 : decode cX9_base 45 = .ok (.lconst 1, 1) := by decide +kernel
theorem dX9_base_46 : decode cX9_base 46 = .ok (.goto 6, 3) := by decide +kernel
theorem dX9_base_49 : decode cX9_base 49 = .ok (.ldc2_w 142, 3) := by decide +kernel
theorem dX9_base_52 : decode cX9_base 52 = .ok (.lreturn, 1) := by decide +kernel
theorem dX9_base_53 : decode cX9_base 53 = .ok (.iload_n 3, 1) := by decide +kernel
theorem dX9_base_54 : decode cX9_base 54 = .ok (.iconst 1, 1) := by decide +kernel
theorem dX9_base_55 : decode cX9_base 55 = .ok (.if_icmp .ne 14, 3) := by decide +kernel
theorem dX9_base_58 : decode cX9_base 58 = .ok (.aload_n 1, 1) := by decide +kernel
theorem dX9_base_59 : decode cX9_base 59 = .ok (.iload_n 2, 1) := by decide +kernel
theorem dX9_base_60 : decode cX9_base 60 = .ok (.iaload, 1) := by decide +kernel
theorem dX9_base_61 : decode cX9_base 61 = .ok (.iconst 4, 1) := by decide +kernel
theorem dX9_base_62 : decode cX9_base 62 = .ok (.if_icmp .ne 7, 3) := by decide +kernel
theorem dX9_base_65 : decode cX9_base 65 = .ok (.ldc2_w 144, 3) := by decide +kernel
theorem dX9_base_68 : decode cX9_base 68 = .ok (.lreturn, 1) := by decide +kernel
theorem dX9_base_69 : decode cX9_base 69 = .ok (.iload_n 3, 1) := by decide +kernel
theorem dX9_base_70 : decode cX9_base 70 = .ok (.iconst 2, 1) := by decide +kernel
theorem dX9_base_71 : decode cX9_base 71 = .ok (.if_icmp .ne 29, 3) := by decide +kernel
theorem dX9_base_74 : decode cX9_base 74 = .ok (.aload_n 1, 1) := by decide +kernel
theorem dX9_base_75 : decode cX9_base 75 = .ok (.iload_n 2, 1) := by decide +kernel
theorem dX9_base_76 : decode cX9_base 76 = .ok (.iload_n 3, 1) := by decide +kernel
theorem dX9_base_77 : decode cX9_base 77 = .ok (.iconst 2, 1) := by decide +kernel
theorem dX9_base_78 : decode cX9_base 78 = .ok (.invokestatic 138, 3) := by decide +kernel
theorem dX9_base_81 : decode cX9_base 81 = .ok (.iconst 1, 1) := by decide +kernel
theorem dX9_base_82 : decode cX9_base 82 = .ok (.if_icmp .ne 18, 3) := by decide +kernel
theorem dX9_base_85 : decode cX9_base 85 = .ok (.aload_n 1, 1) := by decide +kernel
theorem dX9_base_86 : decode cX9_base 86 = .ok (.iload_n 2, 1) := by decide +kernel
theorem dX9_base_87 : decode cX9_base 87 = .ok (.iload_n 3, 1) := by decide +kernel
theorem dX9_base_88 : decode cX9_base 88 = .ok (.iconst 3, 1) := by decide +kernel
theorem dX9_base_89 : decode cX9_base 89 = .ok (.invokestatic 138, 3) := by decide +kernel
theorem dX9_base_92 : decode cX9_base 92 = .ok (.iconst 1, 1) := by decide +kernel
theorem dX9_base_93 : decode cX9_base 93 = .ok (.if_icmp .ne 7, 3) := by decide +kernel
theorem dX9_base_96 : decode cX9_base 96 = .ok (.ldc2_w 146, 3) := by decide +kernel
theorem dX9_base_99 : decode cX9_base 99 = .ok (.lreturn, 1) := by decide +kernel
theorem dX9_base_100 : decode cX9_base 100 = .ok (.iload_n 3, 1) := by decide +kernel
theorem dX9_base_101 : decode cX9_base 101 = .ok (.iconst 3, 1) := by decide +kernel
theorem dX9_base_102 : decode cX9_base 102 = .ok (.if_icmp .ne 20, 3) := by decide +kernel
theorem dX9_base_105 : decode cX9_base 105 = .ok (.aload_n 1, 1) := by decide +kernel
theorem dX9_base_106 : decode cX9_base 106 = .ok (.iload_n 2, 1) := by decide +kernel
theorem dX9_base_107 : decode cX9_base 107 = .ok (.iload_n 3, 1) := by decide +kernel
theorem dX9_base_108 : decode cX9_base 108 = .ok (.iconst 2, 1) := by decide +kernel
theorem dX9_base_109 : decode cX9_base 109 = .ok (.invokestatic 138, 3) := by decide +kernel
theorem dX9_base_112 : decode cX9_base 112 = .ok (.iconst 3, 1) := by decide +kernel
theorem dX9_base_113 : decode cX9_base 113 = .ok (.if_icmp .ne 9, 3) := by decide +kernel
theorem dX9_base_116 : decode cX9_base 116 = .ok (.ldc2_w 148, 3) := by decide +kernel
theorem dX9_base_119 : decode cX9_base 119 = .ok (.goto 6, 3) := by decide +kernel
theorem dX9_base_122 : decode cX9_base 122 = .ok (.ldc2_w 142, 3) := by decide +kernel
theorem dX9_base_125 : decode cX9_base 125 = .ok (.lreturn, 1) := by decide +kernel
theorem dX9_leaves_0 : decode cX9_leaves 0 = .ok (.iconst 0, 1) := by decide +kernel
theorem dX9_leaves_1 : decode cX9_leaves 1 = .ok (.istore 6, 2) := by decide +kernel
theorem dX9_leaves_3 : decode cX9_leaves 3 = .ok (.iconst 1, 1) := by decide +kernel
theorem dX9_leaves_4 : decode cX9_leaves 4 = .ok (.istore 7, 2) := by decide +kernel
theorem dX9_leaves_6 : decode cX9_leaves 6 = .ok (.iload 4, 2) := by decide +kernel
theorem dX9_leaves_8 : decode cX9_leaves 8 = .ok (.ifCond .le 7, 3) := by decide +kernel
theorem dX9_leaves_11 : decode cX9_leaves 11 = .ok (.iconst 1, 1) := by decide +kernel
theorem dX9_leaves_12 : decode cX9_leaves 12 = .ok (.goto 4, 3) := by decide +kernel
theorem dX9_leaves_15 : decode cX9_leaves 15 = .ok (.iconst 0, 1) := by decide +kernel
theorem dX9_leaves_16 : decode cX9_leaves 16 = .ok (.istore 8, 2) := by decide +kernel
theorem dX9_leaves_18 : decode cX9_leaves 18 = .ok (.iconst 0, 1) := by decide +kernel
theorem dX9_leaves_19 : decode cX9_leaves 19 = .ok (.istore 9, 2) := by decide +kernel
theorem dX9_leaves_21 : decode cX9_leaves 21 = .ok (.iload 9, 2) := by decide +kernel
theorem dX9_leaves_23 : decode cX9_leaves 23 = .ok (.iload_n 2, 1) := by decide +kernel
theorem dX9_leaves_24 : decode cX9_leaves 24 = .ok (.if_icmp .ge 64, 3) := by decide +kernel
theorem dX9_leaves_27 : decode cX9_leaves 27 = .ok (.aload_n 0, 1) := by decide +kernel
theorem dX9_leaves_28 : decode cX9_leaves 28 = .ok (.iload_n 1, 1) := by decide +kernel
theorem dX9_leaves_29 : decode cX9_leaves 29 = .ok (.iload 9, 2) := by decide +kernel
theorem dX9_leaves_31 : decode cX9_leaves 31 = .ok (.iadd, 1) := by decide +kernel
theorem dX9_leaves_32 : decode cX9_leaves 32 = .ok (.iaload, 1) := by decide +kernel
theorem dX9_leaves_33 : decode cX9_leaves 33 = .ok (.istore 10, 2) := by decide +kernel
theorem dX9_leaves_35 : decode cX9_leaves 35 = .ok (.iload 7, 2) := by decide +kernel
theorem dX9_leaves_37 : decode cX9_leaves 37 = .ok (.ifCond .eq 15, 3) := by decide +kernel
theorem dX9_leaves_40 : decode cX9_leaves 40 = .ok (.iload 10, 2) := by decide +kernel
theorem dX9_leaves_42 : decode cX9_leaves 42 = .ok (.iload_n 3, 1) := by decide +kernel
theorem dX9_leaves_43 : decode cX9_leaves 43 = .ok (.if_icmp .ne 9, 3) := by decide +kernel
theorem dX9_leaves_46 : decode cX9_leaves 46 = .ok (.iconst 0, 1) := by decide +kernel
theorem dX9_leaves_47 : decode cX9_leaves 47 = .ok (.istore 7, 2) := by decide +kernel
theorem dX9_leaves_49 : decode cX9_leaves 49 = .ok (.goto 33, 3) := by decide +kernel
theorem dX9_leaves_52 : decode cX9_leaves 52 = .ok (.iload 8, 2) := by decide +kernel
theorem dX9_leaves_54 : decode cX9_leaves 54 = .ok (.ifCond .eq 16, 3) := by decide +kernel
theorem dX9_leaves_57 : decode cX9_leaves 57 = .ok (.iload 10, 2) := by decide +kernel
theorem dX9_leaves_59 : decode cX9_leaves 59 = .ok (.iload 4, 2) := by decide +kernel
theorem dX9_leaves_61 : decode cX9_leaves 61 = .ok (.if_icmp .ne 9, 3) := by decide +kernel
theorem dX9_leaves_64 : decode cX9_leaves 64 = .ok (.iconst 0, 1) := by decide +kernel
theorem dX9_leaves_65 : decode cX9_leaves 65 = .ok (.istore 8, 2) := by decide +kernel
theorem dX9_leaves_67 : decode cX9_leaves 67 = .ok (.iinc 10 (-1), 3) := by decide +kernel
theorem dX9_leaves_70 : decode cX9_leaves 70 = .ok (.aload_n 0, 1) := by decide +kernel
theorem dX9_leaves_71 : decode cX9_leaves 71 = .ok (.iload 5, 2) := by decide +kernel
theorem dX9_leaves_73 : decode cX9_leaves 73 = .ok (.iload 6, 2) := by decide +kernel
theorem dX9_leaves_75 : decode cX9_leaves 75 = .ok (.iadd, 1) := by decide +kernel
theorem dX9_leaves_76 : decode cX9_leaves 76 = .ok (.iload 10, 2) := by decide +kernel
theorem dX9_leaves_78 : decode cX9_leaves 78 = .ok (.iastore, 1) := by decide +kernel
theorem dX9_leaves_79 : decode cX9_leaves 79 = .ok (.iinc 6 1, 3) := by decide +kernel
theorem dX9_leaves_82 : decode cX9_leaves 82 = .ok (.iinc 9 1, 3) := by decide +kernel
theorem dX9_leaves_85 : decode cX9_leaves 85 = .ok (.goto (-64), 3) := by decide +kernel
theorem dX9_leaves_88 : decode cX9_leaves 88 = .ok (.return_, 1) := by decide +kernel
set_option maxRecDepth 20000 in
theorem ggX9_numberAt_X9_base : GoodIn wsX9_numberAt wsX9_base := goodIn_r _ [6, 7, 8, 9, 10, 11, 12, 5, 13] (by decide +kernel) (by decide +kernel)
set_option maxRecDepth 20000 in
theorem gX9_numberAt_X9_base : GoodIn wsX9_numberAt (va_wsS RX9 150 yX9_base wsX9_base) := goodIn_app (goodIn_of _ (by decide +kernel)) ggX9_numberAt_X9_base
set_option maxRecDepth 20000 in
theorem ggX9_numberAt_X9_often : GoodIn wsX9_numberAt wsX9_often := goodIn_r _ [13] (by decide +kernel) (by decide +kernel)
set_option maxRecDepth 20000 in
theorem gX9_numberAt_X9_often : GoodIn wsX9_numberAt (va_wsS RX9 138 yX9_often wsX9_often) := goodIn_app (goodIn_of _ (by decide +kernel)) ggX9_numberAt_X9_often
set_option maxRecDepth 20000 in
theorem ggX9_numberAt_X9_leaves : GoodIn wsX9_numberAt wsX9_leaves := goodIn_r _ [16] (by decide +kernel) (by decide +kernel)
set_option maxRecDepth 20000 in
theorem gX9_numberAt_X9_leaves : GoodIn wsX9_numberAt (va_wsS RX9 154 yX9_leaves wsX9_leaves) := goodIn_app (goodIn_of _ (by decide +kernel)) ggX9_numberAt_X9_leaves
set_option maxRecDepth 20000 in
theorem ggX9_numberAt_X9_numberAt : GoodIn wsX9_numberAt wsX9_numberAt := goodIn_r _ [0, 1, 2, 3, 4, 5, 6, 7, 8, 9, 10, 11, 12, 13, 14, 15, 16, 17, 18, 19, 20, 21, 22, 23, 24, 25, 26, 27, 28, 29, 30, 31, 32, 33, 34, 35, 36, 37, 38, 39, 40, 41, 42, 43, 44, 45, 46, 47, 48, 49, 50, 51, 52, 53, 54, 55, 56, 57, 58, 59, 60, 61] (by decide +kernel) (by decide +kernel)
set_option maxRecDepth 20000 in
theorem gX9_numberAt_X9_numberAt : GoodIn wsX9_numberAt (wsV RX9 157 RX9 yX9_numberAt wsX9_numberAt) := goodIn_app (goodIn_of _ (by decide +kernel)) ggX9_numberAt_X9_numberAt
theorem dX9_numberAt_0 : decode cX9_numberAt 0 = .ok (.iload_n 2, 1) := by decide +kernel
theorem dX9_numberAt_1 : decode cX9_numberAt 1 = .ok (.bipush 12, 2) := by decide +kernel
theorem dX9_numberAt_3 : decode cX9_numberAt 3 = .ok (.imul, 1) := by decide +kernel
theorem dX9_numberAt_4 : decode cX9_numberAt 4 = .ok (.istore 4, 2) := by decide +kernel
theorem dX9_numberAt_6 : decode cX9_numberAt 6 = .ok (.iload_n 1, 1) := by decide +kernel
theorem dX9_numberAt_7 : decode cX9_numberAt 7 = .ok (.aload_n 0, 1) := by decide +kernel
theorem dX9_numberAt_8 : decode cX9_numberAt 8 = .ok (.getfield 31, 3) := by decide +kernel
theorem dX9_numberAt_11 : decode cX9_numberAt 11 = .ok (.iload 4, 2) := by decide +kernel
theorem dX9_numberAt_13 : decode cX9_numberAt 13 = .ok (.iload_n 3, 1) := by decide +kernel
theorem dX9_numberAt_14 : decode cX9_numberAt 14 = .ok (.invokestatic 150, 3) := by decide +kernel
theorem dX9_numberAt_17 : decode cX9_numberAt 17 = .ok (.lstore 5, 2) := by decide +kernel
theorem dX9_numberAt_19 : decode cX9_numberAt 19 = .ok (.lload 5, 2) := by decide +kernel
theorem dX9_numberAt_21 : decode cX9_numberAt 21 = .ok (.lconst 0, 1) := by decide +kernel
theorem dX9_numberAt_22 : decode cX9_numberAt 22 = .ok (.lcmp, 1) := by decide +kernel
theorem dX9_numberAt_23 : decode cX9_numberAt 23 = .ok (.ifCond .lt 6, 3) := by decide +kernel
theorem dX9_numberAt_26 : decode cX9_numberAt 26 = .ok (.lload 5, 2) := by decide +kernel
theorem dX9_numberAt_28 : decode cX9_numberAt 28 = .ok (.lreturn, 1) := by decide +kernel
theorem dX9_numberAt_29 : decode cX9_numberAt 29 = .ok (.aload_n 0, 1) := by decide +kernel
theorem dX9_numberAt_30 : decode cX9_numberAt 30 = .ok (.getfield 31, 3) := by decide +kernel
theorem dX9_numberAt_33 : decode cX9_numberAt 33 = .ok (.iload 4, 2) := by decide +kernel
theorem dX9_numberAt_35 : decode cX9_numberAt 35 = .ok (.iload_n 3, 1) := by decide +kernel
theorem dX9_numberAt_36 : decode cX9_numberAt 36 = .ok (.iconst 0, 1) := by decide +kernel
theorem dX9_numberAt_37 : decode cX9_numberAt 37 = .ok (.invokestatic 138, 3) := by decide +kernel
theorem dX9_numberAt_40 : decode cX9_numberAt 40 = .ok (.ifCond .ne 48, 3) := by decide +kernel
theorem dX9_numberAt_43 : decode cX9_numberAt 43 = .ok (.aload_n 0, 1) := by decide +kernel
theorem dX9_numberAt_44 : decode cX9_numberAt 44 = .ok (.getfield 31, 3) := by decide +kernel
theorem dX9_numberAt_47 : decode cX9_numberAt 47 = .ok (.iload 4, 2) := by decide +kernel
theorem dX9_numberAt_49 : decode cX9_numberAt 49 = .ok (.iload_n 3, 1) := by decide +kernel
theorem dX9_numberAt_50 : decode cX9_numberAt 50 = .ok (.iconst 1, 1) := by decide +kernel
theorem dX9_numberAt_51 : decode cX9_numberAt 51 = .ok (.iconst 0, 1) := by decide +kernel
theorem dX9_numberAt_52 : decode cX9_numberAt 52 = .ok (.iload 4, 2) := by decide +kernel
theorem dX9_numberAt_54 : decode cX9_numberAt 54 = .ok (.bipush 12, 2) := by decide +kernel
theorem dX9_numberAt_56 : decode cX9_numberAt 56 = .ok (.iadd, 1) := by decide +kernel
theorem dX9_numberAt_57 : decode cX9_numberAt 57 = .ok (.invokestatic 154, 3) := by decide +kernel
theorem dX9_numberAt_60 : decode cX9_numberAt 60 = .ok (.ldc2_w 114, 3) := by decide +kernel
theorem dX9_numberAt_63 : decode cX9_numberAt 63 = .ok (.iload_n 1, 1) := by decide +kernel
theorem dX9_numberAt_64 : decode cX9_numberAt 64 = .ok (.i2l, 1) := by decide +kernel
theorem dX9_numberAt_65 : decode cX9_numberAt 65 = .ok (.lmul, 1) := by decide +kernel
theorem dX9_numberAt_66 : decode cX9_numberAt 66 = .ok (.ldc2_w 114, 3) := by decide +kernel
theorem dX9_numberAt_69 : decode cX9_numberAt 69 = .ok (.lsub, 1) := by decide +kernel
theorem dX9_numberAt_70 : decode cX9_numberAt 70 = .ok (.iload_n 3, 1) := by decide +kernel
theorem dX9_numberAt_71 : decode cX9_numberAt 71 = .ok (.i2l, 1) := by decide +kernel
theorem dX9_numberAt_72 : decode cX9_numberAt 72 = .ok (.ladd, 1) := by decide +kernel
theorem dX9_numberAt_73 : decode cX9_numberAt 73 = .ok (.lconst 1, 1) := by decide +kernel
theorem dX9_numberAt_74 : decode cX9_numberAt 74 = .ok (.lsub, 1) := by decide +kernel
theorem dX9_numberAt_75 : decode cX9_numberAt 75 = .ok (.aload_n 0, 1) := by decide +kernel
theorem dX9_numberAt_76 : decode cX9_numberAt 76 = .ok (.iload_n 1, 1) := by decide +kernel
theorem dX9_numberAt_77 : decode cX9_numberAt 77 = .ok (.iload_n 2, 1) := by decide +kernel
theorem dX9_numberAt_78 : decode cX9_numberAt 78 = .ok (.iconst 1, 1) := by decide +kernel
theorem dX9_numberAt_79 : decode cX9_numberAt 79 = .ok (.iadd, 1) := by decide +kernel
theorem dX9_numberAt_80 : decode cX9_numberAt 80 = .ok (.iload_n 3, 1) := by decide +kernel
theorem dX9_numberAt_81 : decode cX9_numberAt 81 = .ok (.iconst 1, 1) := by decide +kernel
theorem dX9_numberAt_82 : decode cX9_numberAt 82 = .ok (.isub, 1) := by decide +kernel
theorem dX9_numberAt_83 : decode cX9_numberAt 83 = .ok (.invokevirtual 157, 3) := by decide +kernel
theorem dX9_numberAt_86 : decode cX9_numberAt 86 = .ok (.lmul, 1) := by decide +kernel
theorem dX9_numberAt_87 : decode cX9_numberAt 87 = .ok (.lreturn, 1) := by decide +kernel
theorem dX9_numberAt_88 : decode cX9_numberAt 88 = .ok (.lconst 0, 1) := by decide +kernel
theorem dX9_numberAt_89 : decode cX9_numberAt 89 = .ok (.lstore 7, 2) := by decide +kernel
theorem dX9_numberAt_91 : decode cX9_numberAt 91 = .ok (.iconst 1, 1) := by decide +kernel
theorem dX9_numberAt_92 : decode cX9_numberAt 92 = .ok (.istore 9, 2) := by decide +kernel
theorem dX9_numberAt_94 : decode cX9_numberAt 94 = .ok (.iload 9, 2) := by decide +kernel
theorem dX9_numberAt_96 : decode cX9_numberAt 96 = .ok (.bipush 40, 2) := by decide +kernel
theorem dX9_numberAt_98 : decode cX9_numberAt 98 = .ok (.if_icmp .gt 69, 3) := by decide +kernel
theorem dX9_numberAt_101 : decode cX9_numberAt 101 = .ok (.aload_n 0, 1) := by decide +kernel
theorem dX9_numberAt_102 : decode cX9_numberAt 102 = .ok (.getfield 31, 3) := by decide +kernel
theorem dX9_numberAt_105 : decode cX9_numberAt 105 = .ok (.iload 4, 2) := by decide +kernel
theorem dX9_numberAt_107 : decode cX9_numberAt 107 = .ok (.iload_n 3, 1) := by decide +kernel
theorem dX9_numberAt_108 : decode cX9_numberAt 108 = .ok (.iload 9, 2) := by decide +kernel
theorem dX9_numberAt_110 : decode cX9_numberAt 110 = .ok (.invokestatic 138, 3) := by decide +kernel
theorem dX9_numberAt_113 : decode cX9_numberAt 113 = .ok (.istore 10, 2) := by decide +kernel
theorem dX9_numberAt_115 : decode cX9_numberAt 115 = .ok (.iload 10, 2) := by decide +kernel
theorem dX9_numberAt_117 : decode cX9_numberAt 117 = .ok (.ifCond .ne 6, 3) := by decide +kernel
theorem dX9_numberAt_120 : decode cX9_numberAt 120 = .ok (.goto 41, 3) := by decide +kernel
theorem dX9_numberAt_123 : decode cX9_numberAt 123 = .ok (.aload_n 0, 1) := by decide +kernel
theorem dX9_numberAt_124 : decode cX9_numberAt 124 = .ok (.getfield 31, 3) := by decide +kernel
theorem dX9_numberAt_127 : decode cX9_numberAt 127 = .ok (.iload 4, 2) := by decide +kernel
theorem dX9_numberAt_129 : decode cX9_numberAt 129 = .ok (.iload_n 3, 1) := by decide +kernel
theorem dX9_numberAt_130 : decode cX9_numberAt 130 = .ok (.iconst 0, 1) := by decide +kernel
theorem dX9_numberAt_131 : decode cX9_numberAt 131 = .ok (.iload 9, 2) := by decide +kernel
theorem dX9_numberAt_133 : decode cX9_numberAt 133 = .ok (.iload 4, 2) := by decide +kernel
theorem dX9_numberAt_135 : decode cX9_numberAt 135 = .ok (.bipush 12, 2) := by decide +kernel
theorem dX9_numberAt_137 : decode cX9_numberAt 137 = .ok (.iadd, 1) := by decide +kernel
theorem dX9_numberAt_138 : decode cX9_numberAt 138 = .ok (.invokestatic 154, 3) := by decide +kernel
theorem dX9_numberAt_141 : decode cX9_numberAt 141 = .ok (.lload 7, 2) := by decide +kernel
theorem dX9_numberAt_143 : decode cX9_numberAt 143 = .ok (.iload 10, 2) := by decide +kernel
theorem dX9_numberAt_145 : decode cX9_numberAt 145 = .ok (.i2l, 1) := by decide +kernel
theorem dX9_numberAt_146 : decode cX9_numberAt 146 = .ok (.aload_n 0, 1) := by decide +kernel
theorem dX9_numberAt_147 : decode cX9_numberAt 147 = .ok (.iload_n 1, 1) := by decide +kernel
theorem dX9_numberAt_148 : decode cX9_numberAt 148 = .ok (.iload_n 2, 1) := by decide +kernel
theorem dX9_numberAt_149 : decode cX9_numberAt 149 = .ok (.iconst 1, 1) := by decide +kernel
theorem dX9_numberAt_150 : decode cX9_numberAt 150 = .ok (.iadd, 1) := by decide +kernel
theorem dX9_numberAt_151 : decode cX9_numberAt 151 = .ok (.iload_n 3, 1) := by decide +kernel
theorem dX9_numberAt_152 : decode cX9_numberAt 152 = .ok (.iconst 1, 1) := by decide +kernel
theorem dX9_numberAt_153 : decode cX9_numberAt 153 = .ok (.isub, 1) := by decide +kernel
theorem dX9_numberAt_154 : decode cX9_numberAt 154 = .ok (.invokevirtual 157, 3) := by decide +kernel
theorem dX9_numberAt_157 : decode cX9_numberAt 157 = .ok (.lmul, 1) := by decide +kernel
theorem dX9_numberAt_158 : decode cX9_numberAt 158 = .ok (.ladd, 1) := by decide +kernel
theorem dX9_numberAt_159 : decode cX9_numberAt 159 = .ok (.lstore 7, 2) := by decide +kernel
theorem dX9_numberAt_161 : decode cX9_numberAt 161 = .ok (.iinc 9 1, 3) := by decide +kernel
theorem dX9_numberAt_164 : decode cX9_numberAt 164 = .ok (.goto (-70), 3) := by decide +kernel
theorem dX9_numberAt_167 : decode cX9_numberAt 167 = .ok (.lload 7, 2) := by decide +kernel
theorem dX9_numberAt_169 : decode cX9_numberAt 169 = .ok (.lreturn, 1) := by decide +kernel
set_option maxRecDepth 20000 in
theorem ggX9_numberOf_X9_isNothing : GoodIn wsX9_numberOf wsX9_isNothing := goodIn_r _ [5] (by decide +kernel) (by decide +kernel)
set_option maxRecDepth 20000 in
theorem gX9_numberOf_X9_isNothing : GoodIn wsX9_numberOf (va_wsS RX9 161 yX9_isNothing wsX9_isNothing) := goodIn_app (goodIn_of _ (by decide +kernel)) ggX9_numberOf_X9_isNothing
set_option maxRecDepth 20000 in
theorem ggX9_numberOf_X9_numberAt : GoodIn wsX9_numberOf wsX9_numberAt := goodIn_r _ [9, 1, 10, 11, 12, 4, 13, 14, 15, 16, 17, 18, 19, 20, 21, 22, 23, 6, 7, 8, 24, 25, 26, 27, 28, 29, 30, 31, 32, 33, 34, 35, 36, 37, 38, 39, 40, 41, 42, 43, 44, 45, 46, 47, 48, 49, 50, 51, 52, 53, 54, 55, 56, 57, 58, 59, 60, 61, 62, 63, 64, 65] (by decide +kernel) (by decide +kernel)
set_option maxRecDepth 20000 in
theorem gX9_numberOf_X9_numberAt : GoodIn wsX9_numberOf (wsV RX9 157 RX9 yX9_numberAt wsX9_numberAt) := goodIn_app (goodIn_of _ (by decide +kernel)) ggX9_numberOf_X9_numberAt
theorem dX9_numberOf_0 : decode cX9_numberOf 0 = .ok (.iload_n 1, 1) := by decide +kernel
theorem dX9_numberOf_1 : decode cX9_numberOf 1 = .ok (.aload_n 0, 1) := by decide +kernel
theorem dX9_numberOf_2 : decode cX9_numberOf 2 = .ok (.getfield 31, 3) := by decide +kernel
theorem dX9_numberOf_5 : decode cX9_numberOf 5 = .ok (.iconst 0, 1) := by decide +kernel
theorem dX9_numberOf_6 : decode cX9_numberOf 6 = .ok (.iload_n 2, 1) := by decide +kernel
theorem dX9_numberOf_7 : decode cX9_numberOf 7 = .ok (.invokestatic 161, 3) := by decide +kernel
theorem dX9_numberOf_10 : decode cX9_numberOf 10 = .ok (.ifCond .eq 7, 3) := by decide +kernel
theorem dX9_numberOf_13 : decode cX9_numberOf 13 = .ok (.lconst 0, 1) := by decide +kernel
theorem dX9_numberOf_14 : decode cX9_numberOf 14 = .ok (.goto 10, 3) := by decide +kernel
theorem dX9_numberOf_17 : decode cX9_numberOf 17 = .ok (.aload_n 0, 1) := by decide +kernel
theorem dX9_numberOf_18 : decode cX9_numberOf 18 = .ok (.iload_n 1, 1) := by decide +kernel
theorem dX9_numberOf_19 : decode cX9_numberOf 19 = .ok (.iconst 0, 1) := by decide +kernel
theorem dX9_numberOf_20 : decode cX9_numberOf 20 = .ok (.iload_n 2, 1) := by decide +kernel
theorem dX9_numberOf_21 : decode cX9_numberOf 21 = .ok (.invokevirtual 157, 3) := by decide +kernel
theorem dX9_numberOf_24 : decode cX9_numberOf 24 = .ok (.lreturn, 1) := by decide +kernel
set_option maxRecDepth 20000 in
theorem ggX9_numberOfMarks_X9_numberOf : GoodIn wsX9_numberOfMarks wsX9_numberOf := goodIn_r _ [9, 2, 10, 11, 8, 12, 13, 14, 15, 16, 17, 18, 19, 20, 21, 22, 23, 24, 25, 26, 27, 28, 29, 30, 31, 32, 33, 34, 35, 36, 37, 38, 39, 40, 41, 42, 43, 44, 45, 46, 47, 48, 49, 50, 51, 52, 53, 54, 55, 56, 57, 58, 59, 60, 61, 62, 63, 64, 65, 66, 67, 68, 69, 70, 71, 72] (by decide +kernel) (by decide +kernel)
set_option maxRecDepth 20000 in
theorem gX9_numberOfMarks_X9_numberOf : GoodIn wsX9_numberOfMarks (wsV RX9 165 RX9 yX9_numberOf wsX9_numberOf) := goodIn_app (goodIn_of _ (by decide +kernel)) ggX9_numberOfMarks_X9_numberOf
theorem dX9_numberOfMarks_0 : decode cX9_numberOfMarks 0 = .ok (.iconst 0, 1) := by decide +kernel
theorem dX9_numberOfMarks_1 : decode cX9_numberOfMarks 1 = .ok (.istore_n 1, 1) := by decide +kernel
theorem dX9_numberOfMarks_2 : decode cX9_numberOfMarks 2 = .ok (.iload_n 1, 1) := by decide +kernel
theorem dX9_numberOfMarks_3 : decode cX9_numberOfMarks 3 = .ok (.aload_n 0, 1) := by decide +kernel
theorem dX9_numberOfMarks_4 : decode cX9_numberOfMarks 4 = .ok (.getfield 91, 3) := by decide +kernel
theorem dX9_numberOfMarks_7 : decode cX9_numberOfMarks 7 = .ok (.if_icmp .ge 21, 3) := by decide +kernel
theorem dX9_numberOfMarks_10 : decode cX9_numberOfMarks 10 = .ok (.aload_n 0, 1) := by decide +kernel
theorem dX9_numberOfMarks_11 : decode cX9_numberOfMarks 11 = .ok (.getfield 31, 3) := by decide +kernel
theorem dX9_numberOfMarks_14 : decode cX9_numberOfMarks 14 = .ok (.iload_n 1, 1) := by decide +kernel
theorem dX9_numberOfMarks_15 : decode cX9_numberOfMarks 15 = .ok (.aload_n 0, 1) := by decide +kernel
theorem dX9_numberOfMarks_16 : decode cX9_numberOfMarks 16 = .ok (.getfield 11, 3) := by decide +kernel
theorem dX9_numberOfMarks_19 : decode cX9_numberOfMarks 19 = .ok (.iload_n 1, 1) := by decide +kernel
theorem dX9_numberOfMarks_20 : decode cX9_numberOfMarks 20 = .ok (.iaload, 1) := by decide +kernel
theorem dX9_numberOfMarks_21 : decode cX9_numberOfMarks 21 = .ok (.iastore, 1) := by decide +kernel
theorem dX9_numberOfMarks_22 : decode cX9_numberOfMarks 22 = .ok (.iinc 1 1, 3) := by decide +kernel
theorem dX9_numberOfMarks_25 : decode cX9_numberOfMarks 25 = .ok (.goto (-23), 3) := by decide +kernel
theorem dX9_numberOfMarks_28 : decode cX9_numberOfMarks 28 = .ok (.aload_n 0, 1) := by decide +kernel
theorem dX9_numberOfMarks_29 : decode cX9_numberOfMarks 29 = .ok (.aload_n 0, 1) := by decide +kernel
theorem dX9_numberOfMarks_30 : decode cX9_numberOfMarks 30 = .ok (.getfield 88, 3) := by decide +kernel
theorem dX9_numberOfMarks_33 : decode cX9_numberOfMarks 33 = .ok (.aload_n 0, 1) := by decide +kernel
theorem dX9_numberOfMarks_34 : decode cX9_numberOfMarks 34 = .ok (.getfield 91, 3) := by decide +kernel
theorem dX9_numberOfMarks_37 : decode cX9_numberOfMarks 37 = .ok (.invokevirtual 165, 3) := by decide +kernel
theorem dX9_numberOfMarks_40 : decode cX9_numberOfMarks 40 = .ok (.lreturn, 1) := by decide +kernel
set_option maxRecDepth 20000 in
theorem ggX9_number_X9_in : GoodIn wsX9_number wsX9_in := goodIn_r _ [6] (by decide +kernel) (by decide +kernel)
set_option maxRecDepth 20000 in
theorem gX9_number_X9_in : GoodIn wsX9_number (va_wsS RX9 110 yX9_in wsX9_in) := goodIn_app (goodIn_of _ (by decide +kernel)) ggX9_number_X9_in
set_option maxRecDepth 20000 in
theorem ggX9_number_X9_numberOfMarks : GoodIn wsX9_number wsX9_numberOfMarks := goodIn_r _ [10, 11, 12, 13, 1, 14, 15, 16, 5, 17, 18, 19, 20, 21, 22, 23, 24, 25, 26, 27, 28, 29, 30, 31, 32, 33, 34, 35, 36, 37, 38, 50, 51, 52, 53, 54, 55, 56, 57, 58, 59, 60, 61, 62, 63, 64, 65, 66, 67, 68, 69, 70, 71, 72, 73, 74, 75, 76, 77, 78, 79, 80, 81, 82, 83, 84, 85, 86, 87, 88, 89, 90, 91] (by decide +kernel) (by decide +kernel)
set_option maxRecDepth 20000 in
theorem gX9_number_X9_numberOfMarks : GoodIn wsX9_number (wsV RX9 169 RX9 yX9_numberOfMarks wsX9_numberOfMarks) := goodIn_app (goodIn_of _ (by decide +kernel)) ggX9_number_X9_numberOfMarks
set_option maxRecDepth 20000 in
theorem ggX9_number_X9_line : GoodIn wsX9_number wsX9_line := goodIn_r _ [41, 42, 43] (by decide +kernel) (by decide +kernel)
set_option maxRecDepth 20000 in
theorem gX9_number_X9_line : GoodIn wsX9_number (va_wsS RX9 173 yX9_line wsX9_line) := goodIn_app (goodIn_of _ (by decide +kernel)) ggX9_number_X9_line
set_option maxRecDepth 20000 in
theorem ggX9_number_X9_part : GoodIn wsX9_number wsX9_part := goodIn_r _ [46, 47, 48, 5, 49] (by decide +kernel) (by decide +kernel)
set_option maxRecDepth 20000 in
theorem gX9_number_X9_part : GoodIn wsX9_number (va_wsS RX9 177 yX9_part wsX9_part) := goodIn_app (goodIn_of _ (by decide +kernel)) ggX9_number_X9_part
theorem dX9_number_0 : decode cX9_number 0 = .ok (.iload_n 1, 1) := by decide +kernel
theorem dX9_number_1 : decode cX9_number 1 = .ok (.i2l, 1) := by decide +kernel
theorem dX9_number_2 : decode cX9_number 2 = .ok (.lconst 0, 1) := by decide +kernel
theorem dX9_number_3 : decode cX9_number 3 = .ok (.lconst 1, 1) := by decide +kernel
theorem dX9_number_4 : decode cX9_number 4 = .ok (.invokestatic 110, 3) := by decide +kernel
theorem dX9_number_7 : decode cX9_number 7 = .ok (.ifCond .eq 21, 3) := by decide +kernel
theorem dX9_number_10 : decode cX9_number 10 = .ok (.aload_n 0, 1) := by decide +kernel
theorem dX9_number_11 : decode cX9_number 11 = .ok (.invokevirtual 169, 3) := by decide +kernel
theorem dX9_number_14 : decode cX9_number 14 = .ok (.aload_n 0, 1) := by decide +kernel
theorem dX9_number_15 : decode cX9_number 15 = .ok (.getfield 88, 3) := by decide +kernel
theorem dX9_number_18 : decode cX9_number 18 = .ok (.invokestatic 173, 3) := by decide +kernel
theorem dX9_number_21 : decode cX9_number 21 = .ok (.iload_n 1, 1) := by decide +kernel
theorem dX9_number_22 : decode cX9_number 22 = .ok (.invokestatic 177, 3) := by decide +kernel
theorem dX9_number_25 : decode cX9_number 25 = .ok (.goto 6, 3) := by decide +kernel
theorem dX9_number_28 : decode cX9_number 28 = .ok (.ldc2_w 181, 3) := by decide +kernel
theorem dX9_number_31 : decode cX9_number 31 = .ok (.lreturn, 1) := by decide +kernel
set_option maxRecDepth 20000 in
theorem ggX9_ruleOf_X9_isNothing : GoodIn wsX9_ruleOf wsX9_isNothing := goodIn_r _ [8] (by decide +kernel) (by decide +kernel)
set_option maxRecDepth 20000 in
theorem gX9_ruleOf_X9_isNothing : GoodIn wsX9_ruleOf (va_wsS RX9 161 yX9_isNothing wsX9_isNothing) := goodIn_app (goodIn_of _ (by decide +kernel)) ggX9_ruleOf_X9_isNothing
set_option maxRecDepth 20000 in
theorem ggX9_ruleOf_X9_base : GoodIn wsX9_ruleOf wsX9_base := goodIn_r _ [11, 12, 13, 14, 15, 16, 17, 7, 18] (by decide +kernel) (by decide +kernel)
set_option maxRecDepth 20000 in
theorem gX9_ruleOf_X9_base : GoodIn wsX9_ruleOf (va_wsS RX9 150 yX9_base wsX9_base) := goodIn_app (goodIn_of _ (by decide +kernel)) ggX9_ruleOf_X9_base
set_option maxRecDepth 20000 in
theorem ggX9_ruleOf_X9_often : GoodIn wsX9_ruleOf wsX9_often := goodIn_r _ [18] (by decide +kernel) (by decide +kernel)
set_option maxRecDepth 20000 in
theorem gX9_ruleOf_X9_often : GoodIn wsX9_ruleOf (va_wsS RX9 138 yX9_often wsX9_often) := goodIn_app (goodIn_of _ (by decide +kernel)) ggX9_ruleOf_X9_often
theorem dX9_ruleOf_0 : decode cX9_ruleOf 0 = .ok (.iconst 0, 1) := by decide +kernel
theorem dX9_ruleOf_1 : decode cX9_ruleOf 1 = .ok (.istore_n 1, 1) := by decide +kernel
theorem dX9_ruleOf_2 : decode cX9_ruleOf 2 = .ok (.iload_n 1, 1) := by decide +kernel
theorem dX9_ruleOf_3 : decode cX9_ruleOf 3 = .ok (.aload_n 0, 1) := by decide +kernel
theorem dX9_ruleOf_4 : decode cX9_ruleOf 4 = .ok (.getfield 91, 3) := by decide +kernel
theorem dX9_ruleOf_7 : decode cX9_ruleOf 7 = .ok (.if_icmp .ge 21, 3) := by decide +kernel
theorem dX9_ruleOf_10 : decode cX9_ruleOf 10 = .ok (.aload_n 0, 1) := by decide +kernel
theorem dX9_ruleOf_11 : decode cX9_ruleOf 11 = .ok (.getfield 31, 3) := by decide +kernel
theorem dX9_ruleOf_14 : decode cX9_ruleOf 14 = .ok (.iload_n 1, 1) := by decide +kernel
theorem dX9_ruleOf_15 : decode cX9_ruleOf 15 = .ok (.aload_n 0, 1) := by decide +kernel
theorem dX9_ruleOf_16 : decode cX9_ruleOf 16 = .ok (.getfield 11, 3) := by decide +kernel
theorem dX9_ruleOf_19 : decode cX9_ruleOf 19 = .ok (.iload_n 1, 1) := by decide +kernel
theorem dX9_ruleOf_20 : decode cX9_ruleOf 20 = .ok (.iaload, 1) := by decide +kernel
theorem dX9_ruleOf_21 : decode cX9_ruleOf 21 = .ok (.iastore, 1) := by decide +kernel
theorem dX9_ruleOf_22 : decode cX9_ruleOf 22 = .ok (.iinc 1 1, 3) := by decide +kernel
theorem dX9_ruleOf_25 : decode cX9_ruleOf 25 = .ok (.goto (-23), 3) := by decide +kernel
theorem dX9_ruleOf_28 : decode cX9_ruleOf 28 = .ok (.aload_n 0, 1) := by decide +kernel
theorem dX9_ruleOf_29 : decode cX9_ruleOf 29 = .ok (.getfield 88, 3) := by decide +kernel
theorem dX9_ruleOf_32 : decode cX9_ruleOf 32 = .ok (.aload_n 0, 1) := by decide +kernel
theorem dX9_ruleOf_33 : decode cX9_ruleOf 33 = .ok (.getfield 31, 3) := by decide +kernel
theorem dX9_ruleOf_36 : decode cX9_ruleOf 36 = .ok (.iconst 0, 1) := by decide +kernel
theorem dX9_ruleOf_37 : decode cX9_ruleOf 37 = .ok (.aload_n 0, 1) := by decide +kernel
theorem dX9_ruleOf_38 : decode cX9_ruleOf 38 = .ok (.getfield 91, 3) := by decide +kernel
theorem dX9_ruleOf_41 : decode cX9_ruleOf 41 = .ok (.invokestatic 161, 3) := by decide +kernel
theorem dX9_ruleOf_44 : decode cX9_ruleOf 44 = .ok (.ifCond .eq 5, 3) := by decide +kernel
theorem dX9_ruleOf_47 : decode cX9_ruleOf 47 = .ok (.iconst 0, 1) := by decide +kernel
theorem dX9_ruleOf_48 : decode cX9_ruleOf 48 = .ok (.ireturn, 1) := by decide +kernel
theorem dX9_ruleOf_49 : decode cX9_ruleOf 49 = .ok (.aload_n 0, 1) := by decide +kernel
theorem dX9_ruleOf_50 : decode cX9_ruleOf 50 = .ok (.getfield 88, 3) := by decide +kernel
theorem dX9_ruleOf_53 : decode cX9_ruleOf 53 = .ok (.aload_n 0, 1) := by decide +kernel
theorem dX9_ruleOf_54 : decode cX9_ruleOf 54 = .ok (.getfield 31, 3) := by decide +kernel
theorem dX9_ruleOf_57 : decode cX9_ruleOf 57 = .ok (.iconst 0, 1) := by decide +kernel
theorem dX9_ruleOf_58 : decode cX9_ruleOf 58 = .ok (.aload_n 0, 1) := by decide +kernel
theorem dX9_ruleOf_59 : decode cX9_ruleOf 59 = .ok (.getfield 91, 3) := by decide +kernel
theorem dX9_ruleOf_62 : decode cX9_ruleOf 62 = .ok (.invokestatic 150, 3) := by decide +kernel
theorem dX9_ruleOf_65 : decode cX9_ruleOf 65 = .ok (.lconst 0, 1) := by decide +kernel
theorem dX9_ruleOf_66 : decode cX9_ruleOf 66 = .ok (.lcmp, 1) := by decide +kernel
theorem dX9_ruleOf_67 : decode cX9_ruleOf 67 = .ok (.ifCond .lt 7, 3) := by decide +kernel
theorem dX9_ruleOf_70 : decode cX9_ruleOf 70 = .ok (.iconst 1, 1) := by decide +kernel
theorem dX9_ruleOf_71 : decode cX9_ruleOf 71 = .ok (.goto 24, 3) := by decide +kernel
theorem dX9_ruleOf_74 : decode cX9_ruleOf 74 = .ok (.aload_n 0, 1) := by decide +kernel
theorem dX9_ruleOf_75 : decode cX9_ruleOf 75 = .ok (.getfield 31, 3) := by decide +kernel
theorem dX9_ruleOf_78 : decode cX9_ruleOf 78 = .ok (.iconst 0, 1) := by decide +kernel
theorem dX9_ruleOf_79 : decode cX9_ruleOf 79 = .ok (.aload_n 0, 1) := by decide +kernel
theorem dX9_ruleOf_80 : decode cX9_ruleOf 80 = .ok (.getfield 91, 3) := by decide +kernel
theorem dX9_ruleOf_83 : decode cX9_ruleOf 83 = .ok (.iconst 0, 1) := by decide +kernel
theorem dX9_ruleOf_84 : decode cX9_ruleOf 84 = .ok (.invokestatic 138, 3) := by decide +kernel
theorem dX9_ruleOf_87 : decode cX9_ruleOf 87 = .ok (.ifCond .le 7, 3) := by decide +kernel
theorem dX9_ruleOf_90 : decode cX9_ruleOf 90 = .ok (.iconst 2, 1) := by decide +kernel
theorem dX9_ruleOf_91 : decode cX9_ruleOf 91 = .ok (.goto 4, 3) := by decide +kernel
theorem dX9_ruleOf_94 : decode cX9_ruleOf 94 = .ok (.iconst 3, 1) := by decide +kernel
theorem dX9_ruleOf_95 : decode cX9_ruleOf 95 = .ok (.ireturn, 1) := by decide +kernel
set_option maxRecDepth 20000 in
theorem ggX9_rule_X9_ruleOf : GoodIn wsX9_rule wsX9_ruleOf := goodIn_r _ [5, 6, 7, 8, 9, 10, 11, 4, 12, 13, 14, 15, 16, 17, 18, 19, 20, 21, 22, 23, 24, 25, 26, 27, 28, 29, 30, 31, 32, 33, 34, 35, 36, 37, 38, 39, 40, 41, 42, 43, 44, 45, 46, 47, 48, 49, 50, 51, 52, 53, 54, 55, 56, 57, 58, 59, 60, 61, 62, 63, 64] (by decide +kernel) (by decide +kernel)
set_option maxRecDepth 20000 in
theorem gX9_rule_X9_ruleOf : GoodIn wsX9_rule (wsV RX9 183 RX9 yX9_ruleOf wsX9_ruleOf) := goodIn_app (goodIn_of _ (by decide +kernel)) ggX9_rule_X9_ruleOf
theorem dX9_rule_0 : decode cX9_rule 0 = .ok (.aload_n 0, 1) := by decide +kernel
theorem dX9_rule_1 : decode cX9_rule 1 = .ok (.invokevirtual 183, 3) := by decide +kernel
theorem dX9_rule_4 : decode cX9_rule 4 = .ok (.ireturn, 1) := by decide +kernel
theorem dX9_meets_0 : decode cX9_meets 0 = .ok (.iconst 1, 1) := by decide +kernel
theorem dX9_meets_1 : decode cX9_meets 1 = .ok (.istore_n 3, 1) := by decide +kernel
theorem dX9_meets_2 : decode cX9_meets 2 = .ok (.iload_n 3, 1) := by decide +kernel
theorem dX9_meets_3 : decode cX9_meets 3 = .ok (.iload_n 2, 1) := by decide +kernel
theorem dX9_meets_4 : decode cX9_meets 4 = .ok (.if_icmp .ge 90, 3) := by decide +kernel
theorem dX9_meets_7 : decode cX9_meets 7 = .ok (.iload_n 3, 1) := by decide +kernel
theorem dX9_meets_8 : decode cX9_meets 8 = .ok (.istore 4, 2) := by decide +kernel
theorem dX9_meets_10 : decode cX9_meets 10 = .ok (.iload 4, 2) := by decide +kernel
theorem dX9_meets_12 : decode cX9_meets 12 = .ok (.ifCond .le 76, 3) := by decide +kernel
theorem dX9_meets_15 : decode cX9_meets 15 = .ok (.aload_n 0, 1) := by decide +kernel
theorem dX9_meets_16 : decode cX9_meets 16 = .ok (.getfield 35, 3) := by decide +kernel
theorem dX9_meets_19 : decode cX9_meets 19 = .ok (.iload_n 1, 1) := by decide +kernel
theorem dX9_meets_20 : decode cX9_meets 20 = .ok (.iload 4, 2) := by decide +kernel
theorem dX9_meets_22 : decode cX9_meets 22 = .ok (.iadd, 1) := by decide +kernel
theorem dX9_meets_23 : decode cX9_meets 23 = .ok (.iconst 1, 1) := by decide +kernel
theorem dX9_meets_24 : decode cX9_meets 24 = .ok (.isub, 1) := by decide +kernel
theorem dX9_meets_25 : decode cX9_meets 25 = .ok (.iaload, 1) := by decide +kernel
theorem dX9_meets_26 : decode cX9_meets 26 = .ok (.aload_n 0, 1) := by decide +kernel
theorem dX9_meets_27 : decode cX9_meets 27 = .ok (.getfield 35, 3) := by decide +kernel
theorem dX9_meets_30 : decode cX9_meets 30 = .ok (.iload_n 1, 1) := by decide +kernel
theorem dX9_meets_31 : decode cX9_meets 31 = .ok (.iload 4, 2) := by decide +kernel
theorem dX9_meets_33 : decode cX9_meets 33 = .ok (.iadd, 1) := by decide +kernel
theorem dX9_meets_34 : decode cX9_meets 34 = .ok (.iaload, 1) := by decide +kernel
theorem dX9_meets_35 : decode cX9_meets 35 = .ok (.if_icmp .le 53, 3) := by decide +kernel
theorem dX9_meets_38 : decode cX9_meets 38 = .ok (.aload_n 0, 1) := by decide +kernel
theorem dX9_meets_39 : decode cX9_meets 39 = .ok (.getfield 35, 3) := by decide +kernel
theorem dX9_meets_42 : decode cX9_meets 42 = .ok (.iload_n 1, 1) := by decide +kernel
theorem dX9_meets_43 : decode cX9_meets 43 = .ok (.iload 4, 2) := by decide +kernel
theorem dX9_meets_45 : decode cX9_meets 45 = .ok (.iadd, 1) := by decide +kernel
theorem dX9_meets_46 : decode cX9_meets 46 = .ok (.iaload, 1) := by decide +kernel
theorem dX9_meets_47 : decode cX9_meets 47 = .ok (.istore 5, 2) := by decide +kernel
theorem dX9_meets_49 : decode cX9_meets 49 = .ok (.aload_n 0, 1) := by decide +kernel
theorem dX9_meets_50 : decode cX9_meets 50 = .ok (.getfield 35, 3) := by decide +kernel
theorem dX9_meets_53 : decode cX9_meets 53 = .ok (.iload_n 1, 1) := by decide +kernel
theorem dX9_meets_54 : decode cX9_meets 54 = .ok (.iload 4, 2) := by decide +kernel
theorem dX9_meets_56 : decode cX9_meets 56 = .ok (.iadd, 1) := by decide +kernel
theorem dX9_meets_57 : decode cX9_meets 57 = .ok (.aload_n 0, 1) := by decide +kernel
theorem dX9_meets_58 : decode cX9_meets 58 = .ok (.getfield 35, 3) := by decide +kernel
theorem dX9_meets_61 : decode cX9_meets 61 = .ok (.iload_n 1, 1) := by decide +kernel
theorem dX9_meets_62 : decode cX9_meets 62 = .ok (.iload 4, 2) := by decide +kernel
theorem dX9_meets_64 : decode cX9_meets 64 = .ok (.iadd, 1) := by decide +kernel
theorem dX9_meets_65 : decode cX9_meets 65 = .ok (.iconst 1, 1) := by decide +kernel
theorem dX9_meets_66 : decode cX9_meets 66 = .ok (.isub, 1) := by decide +kernel
theorem dX9_meets_67 : decode cX9_meets 67 = .ok (.iaload, 1) := by decide +kernel
theorem dX9_meets_68 : decode cX9_meets 68 = .ok (.iastore, 1) := by decide +kernel
theorem dX9_meets_69 : decode cX9_meets 69 = .ok (.aload_n 0, 1) := by decide +kernel
theorem dX9_meets_70 : decode cX9_meets 70 = .ok (.getfield 35, 3) := by decide +kernel
theorem dX9_meets_73 : decode cX9_meets 73 = .ok (.iload_n 1, 1) := by decide +kernel
theorem dX9_meets_74 : decode cX9_meets 74 = .ok (.iload 4, 2) := by decide +kernel
theorem dX9_meets_76 : decode cX9_meets 76 = .ok (.iadd, 1) := by decide +kernel
theorem dX9_meets_77 : decode cX9_meets 77 = .ok (.iconst 1, 1) := by decide +kernel
theorem dX9_meets_78 : decode cX9_meets 78 = .ok (.isub, 1) := by decide +kernel
theorem dX9_meets_79 : decode cX9_meets 79 = .ok (.iload 5, 2) := by decide +kernel
theorem dX9_meets_81 : decode cX9_meets 81 = .ok (.iastore, 1) := by decide +kernel
theorem dX9_meets_82 : decode cX9_meets 82 = .ok (.iinc 4 (-1), 3) := by decide +kernel
theorem dX9_meets_85 : decode cX9_meets 85 = .ok (.goto (-75), 3) := by decide +kernel
theorem dX9_meets_88 : decode cX9_meets 88 = .ok (.iinc 3 1, 3) := by decide +kernel
theorem dX9_meets_91 : decode cX9_meets 91 = .ok (.goto (-89), 3) := by decide +kernel
theorem dX9_meets_94 : decode cX9_meets 94 = .ok (.iconst 0, 1) := by decide +kernel
theorem dX9_meets_95 : decode cX9_meets 95 = .ok (.istore_n 3, 1) := by decide +kernel
theorem dX9_meets_96 : decode cX9_meets 96 = .ok (.iload_n 3, 1) := by decide +kernel
theorem dX9_meets_97 : decode cX9_meets 97 = .ok (.aload_n 0, 1) := by decide +kernel
theorem dX9_meets_98 : decode cX9_meets 98 = .ok (.getfield 187, 3) := by decide +kernel
theorem dX9_meets_101 : decode cX9_meets 101 = .ok (.if_icmp .ge 83, 3) := by decide +kernel
theorem dX9_meets_104 : decode cX9_meets 104 = .ok (.aload_n 0, 1) := by decide +kernel
theorem dX9_meets_105 : decode cX9_meets 105 = .ok (.getfield 38, 3) := by decide +kernel
theorem dX9_meets_108 : decode cX9_meets 108 = .ok (.iload_n 3, 1) := by decide +kernel
theorem dX9_meets_109 : decode cX9_meets 109 = .ok (.iaload, 1) := by decide +kernel
theorem dX9_meets_110 : decode cX9_meets 110 = .ok (.iload_n 2, 1) := by decide +kernel
theorem dX9_meets_111 : decode cX9_meets 111 = .ok (.if_icmp .ne 7, 3) := by decide +kernel
theorem dX9_meets_114 : decode cX9_meets 114 = .ok (.iconst 1, 1) := by decide +kernel
theorem dX9_meets_115 : decode cX9_meets 115 = .ok (.goto 4, 3) := by decide +kernel
theorem dX9_meets_118 : decode cX9_meets 118 = .ok (.iconst 0, 1) := by decide +kernel
theorem dX9_meets_119 : decode cX9_meets 119 = .ok (.istore 4, 2) := by decide +kernel
theorem dX9_meets_121 : decode cX9_meets 121 = .ok (.iconst 0, 1) := by decide +kernel
theorem dX9_meets_122 : decode cX9_meets 122 = .ok (.istore 5, 2) := by decide +kernel
theorem dX9_meets_124 : decode cX9_meets 124 = .ok (.iload 5, 2) := by decide +kernel
theorem dX9_meets_126 : decode cX9_meets 126 = .ok (.iload_n 2, 1) := by decide +kernel
theorem dX9_meets_127 : decode cX9_meets 127 = .ok (.if_icmp .ge 45, 3) := by decide +kernel
theorem dX9_meets_130 : decode cX9_meets 130 = .ok (.iload 4, 2) := by decide +kernel
theorem dX9_meets_132 : decode cX9_meets 132 = .ok (.ifCond .eq 40, 3) := by decide +kernel
theorem dX9_meets_135 : decode cX9_meets 135 = .ok (.aload_n 0, 1) := by decide +kernel
theorem dX9_meets_136 : decode cX9_meets 136 = .ok (.getfield 35, 3) := by decide +kernel
theorem dX9_meets_139 : decode cX9_meets 139 = .ok (.iload_n 3, 1) := by decide +kernel
theorem dX9_meets_140 : decode cX9_meets 140 = .ok (.bipush 12, 2) := by decide +kernel
theorem dX9_meets_142 : decode cX9_meets 142 = .ok (.imul, 1) := by decide +kernel
theorem dX9_meets_143 : decode cX9_meets 143 = .ok (.iload 5, 2) := by decide +kernel
theorem dX9_meets_145 : decode cX9_meets 145 = .ok (.iadd, 1) := by decide +kernel
theorem dX9_meets_146 : decode cX9_meets 146 = .ok (.iaload, 1) := by decide +kernel
theorem dX9_meets_147 : decode cX9_meets 147 = .ok (.aload_n 0, 1) := by decide +kernel
theorem dX9_meets_148 : decode cX9_meets 148 = .ok (.getfield 35, 3) := by decide +kernel
theorem dX9_meets_151 : decode cX9_meets 151 = .ok (.iload_n 1, 1) := by decide +kernel
theorem dX9_meets_152 : decode cX9_meets 152 = .ok (.iload 5, 2) := by decide +kernel
theorem dX9_meets_154 : decode cX9_meets 154 = .ok (.iadd, 1) := by decide +kernel
theorem dX9_meets_155 : decode cX9_meets 155 = .ok (.iaload, 1) := by decide +kernel
theorem dX9_meets_156 : decode cX9_meets 156 = .ok (.if_icmp .ne 7, 3) := by decide +kernel
theorem dX9_meets_159 : decode cX9_meets 159 = .ok (.iconst 1, 1) := by decide +kernel
theorem dX9_meets_160 : decode cX9_meets 160 = .ok (.goto 4, 3) := by decide +kernel
theorem dX9_meets_163 : decode cX9_meets 163 = .ok (.iconst 0, 1) := by decide +kernel
theorem dX9_meets_164 : decode cX9_meets 164 = .ok (.istore 4, 2) := by decide +kernel
theorem dX9_meets_166 : decode cX9_meets 166 = .ok (.iinc 5 1, 3) := by decide +kernel
theorem dX9_meets_169 : decode cX9_meets 169 = .ok (.goto (-45), 3) := by decide +kernel
theorem dX9_meets_172 : decode cX9_meets 172 = .ok (.iload 4, 2) := by decide +kernel
theorem dX9_meets_174 : decode cX9_meets 174 = .ok (.ifCond .eq 4, 3) := by decide +kernel
theorem dX9_meets_177 : decode cX9_meets 177 = .ok (.return_, 1) := by decide +kernel
theorem dX9_meets_178 : decode cX9_meets 178 = .ok (.iinc 3 1, 3) := by decide +kernel
theorem dX9_meets_181 : decode cX9_meets 181 = .ok (.goto (-85), 3) := by decide +kernel
theorem dX9_meets_184 : decode cX9_meets 184 = .ok (.aload_n 0, 1) := by decide +kernel
theorem dX9_meets_185 : decode cX9_meets 185 = .ok (.getfield 38, 3) := by decide +kernel
theorem dX9_meets_188 : decode cX9_meets 188 = .ok (.aload_n 0, 1) := by decide +kernel
theorem dX9_meets_189 : decode cX9_meets 189 = .ok (.getfield 187, 3) := by decide +kernel
theorem dX9_meets_192 : decode cX9_meets 192 = .ok (.iload_n 2, 1) := by decide +kernel
theorem dX9_meets_193 : decode cX9_meets 193 = .ok (.iastore, 1) := by decide +kernel
theorem dX9_meets_194 : decode cX9_meets 194 = .ok (.aload_n 0, 1) := by decide +kernel
theorem dX9_meets_195 : decode cX9_meets 195 = .ok (.dup, 1) := by decide +kernel
theorem dX9_meets_196 : decode cX9_meets 196 = .ok (.getfield 187, 3) := by decide +kernel
theorem dX9_meets_199 : decode cX9_meets 199 = .ok (.iconst 1, 1) := by decide +kernel
theorem dX9_meets_200 : decode cX9_meets 200 = .ok (.iadd, 1) := by decide +kernel
theorem dX9_meets_201 : decode cX9_meets 201 = .ok (.putfield 187, 3) := by decide +kernel
theorem dX9_meets_204 : decode cX9_meets 204 = .ok (.return_, 1) := by decide +kernel
set_option maxRecDepth 20000 in
theorem ggX9_met_X9_ruleOf : GoodIn wsX9_met wsX9_ruleOf := goodIn_r _ [11, 2, 12, 4, 6, 13, 14, 10, 15, 16, 17, 18, 19, 20, 21, 22, 23, 24, 25, 33, 34, 35, 36, 37, 38, 39, 40, 41, 42, 43, 44, 45, 46, 47, 48, 49, 50, 51, 52, 53, 54, 55, 56, 57, 58, 59, 60, 61, 62, 63, 64, 65, 66, 67, 68, 69, 70, 71, 72, 73, 74] (by decide +kernel) (by decide +kernel)
set_option maxRecDepth 20000 in
theorem gX9_met_X9_ruleOf : GoodIn wsX9_met (wsV RX9 183 RX9 yX9_ruleOf wsX9_ruleOf) := goodIn_app (goodIn_of _ (by decide +kernel)) ggX9_met_X9_ruleOf
set_option maxRecDepth 20000 in
theorem ggX9_met_X9_meets : GoodIn wsX9_met wsX9_meets := goodIn_r _ [29, 3, 1, 5, 33, 34, 35, 36, 37, 38, 39, 40, 41, 42, 43, 44, 45, 46, 47, 48, 49, 50, 51, 52, 53, 54, 55, 56, 57, 58, 59, 60, 61, 62, 63, 64, 65, 66, 67, 68, 69, 70, 71, 72, 73, 74] (by decide +kernel) (by decide +kernel)
set_option maxRecDepth 20000 in
theorem gX9_met_X9_meets : GoodIn wsX9_met (wsV RX9 190 RX9 yX9_meets wsX9_meets) := goodIn_app (goodIn_of _ (by decide +kernel)) ggX9_met_X9_meets
set_option maxRecDepth 20000 in
theorem ggX9_met_X9_base : GoodIn wsX9_met wsX9_base := goodIn_r _ [18, 19, 20, 21, 22, 23, 24, 10, 25] (by decide +kernel) (by decide +kernel)
set_option maxRecDepth 20000 in
theorem gX9_met_X9_base : GoodIn wsX9_met (va_wsS RX9 150 yX9_base wsX9_base) := goodIn_app (goodIn_of _ (by decide +kernel)) ggX9_met_X9_base
set_option maxRecDepth 20000 in
theorem ggX9_met_X9_often : GoodIn wsX9_met wsX9_often := goodIn_r _ [25] (by decide +kernel) (by decide +kernel)
set_option maxRecDepth 20000 in
theorem gX9_met_X9_often : GoodIn wsX9_met (va_wsS RX9 138 yX9_often wsX9_often) := goodIn_app (goodIn_of _ (by decide +kernel)) ggX9_met_X9_often
set_option maxRecDepth 20000 in
theorem ggX9_met_X9_leaves : GoodIn wsX9_met wsX9_leaves := goodIn_r _ [32] (by decide +kernel) (by decide +kernel)
set_option maxRecDepth 20000 in
theorem gX9_met_X9_leaves : GoodIn wsX9_met (va_wsS RX9 154 yX9_leaves wsX9_leaves) := goodIn_app (goodIn_of _ (by decide +kernel)) ggX9_met_X9_leaves
theorem dX9_met_0 : decode cX9_met 0 = .ok (.aload_n 0, 1) := by decide +kernel
theorem dX9_met_1 : decode cX9_met 1 = .ok (.invokevirtual 183, 3) := by decide +kernel
theorem dX9_met_4 : decode cX9_met 4 = .ok (.ifCond .ne 5, 3) := by decide +kernel
theorem dX9_met_7 : decode cX9_met 7 = .ok (.iconst 0, 1) := by decide +kernel
theorem dX9_met_8 : decode cX9_met 8 = .ok (.ireturn, 1) := by decide +kernel
theorem dX9_met_9 : decode cX9_met 9 = .ok (.aload_n 0, 1) := by decide +kernel
theorem dX9_met_10 : decode cX9_met 10 = .ok (.iconst 0, 1) := by decide +kernel
theorem dX9_met_11 : decode cX9_met 11 = .ok (.putfield 187, 3) := by decide +kernel
theorem dX9_met_14 : decode cX9_met 14 = .ok (.iconst 0, 1) := by decide +kernel
theorem dX9_met_15 : decode cX9_met 15 = .ok (.istore_n 1, 1) := by decide +kernel
theorem dX9_met_16 : decode cX9_met 16 = .ok (.iload_n 1, 1) := by decide +kernel
theorem dX9_met_17 : decode cX9_met 17 = .ok (.aload_n 0, 1) := by decide +kernel
theorem dX9_met_18 : decode cX9_met 18 = .ok (.getfield 91, 3) := by decide +kernel
theorem dX9_met_21 : decode cX9_met 21 = .ok (.if_icmp .ge 21, 3) := by decide +kernel
theorem dX9_met_24 : decode cX9_met 24 = .ok (.aload_n 0, 1) := by decide +kernel
theorem dX9_met_25 : decode cX9_met 25 = .ok (.getfield 35, 3) := by decide +kernel
theorem dX9_met_28 : decode cX9_met 28 = .ok (.iload_n 1, 1) := by decide +kernel
theorem dX9_met_29 : decode cX9_met 29 = .ok (.aload_n 0, 1) := by decide +kernel
theorem dX9_met_30 : decode cX9_met 30 = .ok (.getfield 11, 3) := by decide +kernel
theorem dX9_met_33 : decode cX9_met 33 = .ok (.iload_n 1, 1) := by decide +kernel
theorem dX9_met_34 : decode cX9_met 34 = .ok (.iaload, 1) := by decide +kernel
theorem dX9_met_35 : decode cX9_met 35 = .ok (.iastore, 1) := by decide +kernel
theorem dX9_met_36 : decode cX9_met 36 = .ok (.iinc 1 1, 3) := by decide +kernel
theorem dX9_met_39 : decode cX9_met 39 = .ok (.goto (-23), 3) := by decide +kernel
theorem dX9_met_42 : decode cX9_met 42 = .ok (.aload_n 0, 1) := by decide +kernel
theorem dX9_met_43 : decode cX9_met 43 = .ok (.iconst 0, 1) := by decide +kernel
theorem dX9_met_44 : decode cX9_met 44 = .ok (.aload_n 0, 1) := by decide +kernel
theorem dX9_met_45 : decode cX9_met 45 = .ok (.getfield 91, 3) := by decide +kernel
theorem dX9_met_48 : decode cX9_met 48 = .ok (.invokevirtual 190, 3) := by decide +kernel
theorem dX9_met_51 : decode cX9_met 51 = .ok (.iconst 0, 1) := by decide +kernel
theorem dX9_met_52 : decode cX9_met 52 = .ok (.istore_n 1, 1) := by decide +kernel
theorem dX9_met_53 : decode cX9_met 53 = .ok (.iload_n 1, 1) := by decide +kernel
theorem dX9_met_54 : decode cX9_met 54 = .ok (.aload_n 0, 1) := by decide +kernel
theorem dX9_met_55 : decode cX9_met 55 = .ok (.getfield 187, 3) := by decide +kernel
theorem dX9_met_58 : decode cX9_met 58 = .ok (.if_icmp .ge 156, 3) := by decide +kernel
theorem dX9_met_61 : decode cX9_met 61 = .ok (.iload_n 1, 1) := by decide +kernel
theorem dX9_met_62 : decode cX9_met 62 = .ok (.bipush 12, 2) := by decide +kernel
theorem dX9_met_64 : decode cX9_met 64 = .ok (.imul, 1) := by decide +kernel
theorem dX9_met_65 : decode cX9_met 65 = .ok (.istore_n 2, 1) := by decide +kernel
theorem dX9_met_66 : decode cX9_met 66 = .ok (.aload_n 0, 1) := by decide +kernel
theorem dX9_met_67 : decode cX9_met 67 = .ok (.getfield 38, 3) := by decide +kernel
theorem dX9_met_70 : decode cX9_met 70 = .ok (.iload_n 1, 1) := by decide +kernel
theorem dX9_met_71 : decode cX9_met 71 = .ok (.iaload, 1) := by decide +kernel
theorem dX9_met_72 : decode cX9_met 72 = .ok (.istore_n 3, 1) := by decide +kernel
theorem dX9_met_73 : decode cX9_met 73 = .ok (.aload_n 0, 1) := by decide +kernel
theorem dX9_met_74 : decode cX9_met 74 = .ok (.getfield 88, 3) := by decide +kernel
theorem dX9_met_77 : decode cX9_met 77 = .ok (.aload_n 0, 1) := by decide +kernel
theorem dX9_met_78 : decode cX9_met 78 = .ok (.getfield 35, 3) := by decide +kernel
theorem dX9_met_81 : decode cX9_met 81 = .ok (.iload_n 2, 1) := by decide +kernel
theorem dX9_met_82 : decode cX9_met 82 = .ok (.iload_n 3, 1) := by decide +kernel
theorem dX9_met_83 : decode cX9_met 83 = .ok (.invokestatic 150, 3) := by decide +kernel
theorem dX9_met_86 : decode cX9_met 86 = .ok (.lconst 0, 1) := by decide +kernel
theorem dX9_met_87 : decode cX9_met 87 = .ok (.lcmp, 1) := by decide +kernel
theorem dX9_met_88 : decode cX9_met 88 = .ok (.ifCond .lt 6, 3) := by decide +kernel
theorem dX9_met_91 : decode cX9_met 91 = .ok (.goto 117, 3) := by decide +kernel
theorem dX9_met_94 : decode cX9_met 94 = .ok (.aload_n 0, 1) := by decide +kernel
theorem dX9_met_95 : decode cX9_met 95 = .ok (.getfield 35, 3) := by decide +kernel
theorem dX9_met_98 : decode cX9_met 98 = .ok (.iload_n 2, 1) := by decide +kernel
theorem dX9_met_99 : decode cX9_met 99 = .ok (.iload_n 3, 1) := by decide +kernel
theorem dX9_met_100 : decode cX9_met 100 = .ok (.iconst 0, 1) := by decide +kernel
theorem dX9_met_101 : decode cX9_met 101 = .ok (.invokestatic 138, 3) := by decide +kernel
theorem dX9_met_104 : decode cX9_met 104 = .ok (.ifCond .ne 38, 3) := by decide +kernel
theorem dX9_met_107 : decode cX9_met 107 = .ok (.aload_n 0, 1) := by decide +kernel
theorem dX9_met_108 : decode cX9_met 108 = .ok (.getfield 35, 3) := by decide +kernel
theorem dX9_met_111 : decode cX9_met 111 = .ok (.iload_n 2, 1) := by decide +kernel
theorem dX9_met_112 : decode cX9_met 112 = .ok (.iload_n 3, 1) := by decide +kernel
theorem dX9_met_113 : decode cX9_met 113 = .ok (.iconst 1, 1) := by decide +kernel
theorem dX9_met_114 : decode cX9_met 114 = .ok (.iconst 0, 1) := by decide +kernel
theorem dX9_met_115 : decode cX9_met 115 = .ok (.aload_n 0, 1) := by decide +kernel
theorem dX9_met_116 : decode cX9_met 116 = .ok (.getfield 187, 3) := by decide +kernel
theorem dX9_met_119 : decode cX9_met 119 = .ok (.bipush 12, 2) := by decide +kernel
theorem dX9_met_121 : decode cX9_met 121 = .ok (.imul, 1) := by decide +kernel
theorem dX9_met_122 : decode cX9_met 122 = .ok (.invokestatic 154, 3) := by decide +kernel
theorem dX9_met_125 : decode cX9_met 125 = .ok (.aload_n 0, 1) := by decide +kernel
theorem dX9_met_126 : decode cX9_met 126 = .ok (.aload_n 0, 1) := by decide +kernel
theorem dX9_met_127 : decode cX9_met 127 = .ok (.getfield 187, 3) := by decide +kernel
theorem dX9_met_130 : decode cX9_met 130 = .ok (.bipush 12, 2) := by decide +kernel
theorem dX9_met_132 : decode cX9_met 132 = .ok (.imul, 1) := by decide +kernel
theorem dX9_met_133 : decode cX9_met 133 = .ok (.iload_n 3, 1) := by decide +kernel
theorem dX9_met_134 : decode cX9_met 134 = .ok (.iconst 1, 1) := by decide +kernel
theorem dX9_met_135 : decode cX9_met 135 = .ok (.isub, 1) := by decide +kernel
theorem dX9_met_136 : decode cX9_met 136 = .ok (.invokevirtual 190, 3) := by decide +kernel
theorem dX9_met_139 : decode cX9_met 139 = .ok (.goto 69, 3) := by decide +kernel
theorem dX9_met_142 : decode cX9_met 142 = .ok (.iconst 1, 1) := by decide +kernel
theorem dX9_met_143 : decode cX9_met 143 = .ok (.istore 4, 2) := by decide +kernel
theorem dX9_met_145 : decode cX9_met 145 = .ok (.iload 4, 2) := by decide +kernel
theorem dX9_met_147 : decode cX9_met 147 = .ok (.bipush 12, 2) := by decide +kernel
theorem dX9_met_149 : decode cX9_met 149 = .ok (.if_icmp .gt 59, 3) := by decide +kernel
theorem dX9_met_152 : decode cX9_met 152 = .ok (.aload_n 0, 1) := by decide +kernel
theorem dX9_met_153 : decode cX9_met 153 = .ok (.getfield 35, 3) := by decide +kernel
theorem dX9_met_156 : decode cX9_met 156 = .ok (.iload_n 2, 1) := by decide +kernel
theorem dX9_met_157 : decode cX9_met 157 = .ok (.iload_n 3, 1) := by decide +kernel
theorem dX9_met_158 : decode cX9_met 158 = .ok (.iload 4, 2) := by decide +kernel
theorem dX9_met_160 : decode cX9_met 160 = .ok (.invokestatic 138, 3) := by decide +kernel
theorem dX9_met_163 : decode cX9_met 163 = .ok (.ifCond .ne 6, 3) := by decide +kernel
theorem dX9_met_166 : decode cX9_met 166 = .ok (.goto 36, 3) := by decide +kernel
theorem dX9_met_169 : decode cX9_met 169 = .ok (.aload_n 0, 1) := by decide +kernel
theorem dX9_met_170 : decode cX9_met 170 = .ok (.getfield 35, 3) := by decide +kernel
theorem dX9_met_173 : decode cX9_met 173 = .ok (.iload_n 2, 1) := by decide +kernel
theorem dX9_met_174 : decode cX9_met 174 = .ok (.iload_n 3, 1) := by decide +kernel
theorem dX9_met_175 : decode cX9_met 175 = .ok (.iconst 0, 1) := by decide +kernel
theorem dX9_met_176 : decode cX9_met 176 = .ok (.iload 4, 2) := by decide +kernel
theorem dX9_met_178 : decode cX9_met 178 = .ok (.aload_n 0, 1) := by decide +kernel
theorem dX9_met_179 : decode cX9_met 179 = .ok (.getfield 187, 3) := by decide +kernel
theorem dX9_met_182 : decode cX9_met 182 = .ok (.bipush 12, 2) := by decide +kernel
theorem dX9_met_184 : decode cX9_met 184 = .ok (.imul, 1) := by decide +kernel
theorem dX9_met_185 : decode cX9_met 185 = .ok (.invokestatic 154, 3) := by decide +kernel
theorem dX9_met_188 : decode cX9_met 188 = .ok (.aload_n 0, 1) := by decide +kernel
theorem dX9_met_189 : decode cX9_met 189 = .ok (.aload_n 0, 1) := by decide +kernel
theorem dX9_met_190 : decode cX9_met 190 = .ok (.getfield 187, 3) := by decide +kernel
theorem dX9_met_193 : decode cX9_met 193 = .ok (.bipush 12, 2) := by decide +kernel
theorem dX9_met_195 : decode cX9_met 195 = .ok (.imul, 1) := by decide +kernel
theorem dX9_met_196 : decode cX9_met 196 = .ok (.iload_n 3, 1) := by decide +kernel
theorem dX9_met_197 : decode cX9_met 197 = .ok (.iconst 1, 1) := by decide +kernel
theorem dX9_met_198 : decode cX9_met 198 = .ok (.isub, 1) := by decide +kernel
theorem dX9_met_199 : decode cX9_met 199 = .ok (.invokevirtual 190, 3) := by decide +kernel
theorem dX9_met_202 : decode cX9_met 202 = .ok (.iinc 4 1, 3) := by decide +kernel
theorem dX9_met_205 : decode cX9_met 205 = .ok (.goto (-60), 3) := by decide +kernel
theorem dX9_met_208 : decode cX9_met 208 = .ok (.iinc 1 1, 3) := by decide +kernel
theorem dX9_met_211 : decode cX9_met 211 = .ok (.goto (-158), 3) := by decide +kernel
theorem dX9_met_214 : decode cX9_met 214 = .ok (.aload_n 0, 1) := by decide +kernel
theorem dX9_met_215 : decode cX9_met 215 = .ok (.getfield 187, 3) := by decide +kernel
theorem dX9_met_218 : decode cX9_met 218 = .ok (.ireturn, 1) := by decide +kernel
set_option maxRecDepth 20000 in
theorem ggX9_withMore_X9_numberOf : GoodIn wsX9_withMore wsX9_numberOf := goodIn_r _ [9, 2, 10, 11, 8, 12, 13, 14, 15, 16, 17, 18, 19, 20, 21, 22, 23, 24, 25, 26, 27, 28, 29, 30, 31, 32, 33, 34, 35, 36, 37, 38, 39, 40, 41, 42, 43, 44, 45, 46, 47, 48, 49, 50, 51, 52, 53, 54, 55, 56, 57, 58, 59, 60, 61, 62, 63, 64, 65, 66, 67, 68, 69, 70, 71, 72] (by decide +kernel) (by decide +kernel)
set_option maxRecDepth 20000 in
theorem gX9_withMore_X9_numberOf : GoodIn wsX9_withMore (wsV RX9 165 RX9 yX9_numberOf wsX9_numberOf) := goodIn_app (goodIn_of _ (by decide +kernel)) ggX9_withMore_X9_numberOf
theorem dX9_withMore_0 : decode cX9_withMore 0 = .ok (.iconst 0, 1) := by decide +kernel
theorem dX9_withMore_1 : decode cX9_withMore 1 = .ok (.istore 5, 2) := by decide +kernel
theorem dX9_withMore_3 : decode cX9_withMore 3 = .ok (.iload 5, 2) := by decide +kernel
theorem dX9_withMore_5 : decode cX9_withMore 5 = .ok (.aload_n 0, 1) := by decide +kernel
theorem dX9_withMore_6 : decode cX9_withMore 6 = .ok (.getfield 91, 3) := by decide +kernel
theorem dX9_withMore_9 : decode cX9_withMore 9 = .ok (.if_icmp .ge 23, 3) := by decide +kernel
theorem dX9_withMore_12 : decode cX9_withMore 12 = .ok (.aload_n 0, 1) := by decide +kernel
theorem dX9_withMore_13 : decode cX9_withMore 13 = .ok (.getfield 31, 3) := by decide +kernel
theorem dX9_withMore_16 : decode cX9_withMore 16 = .ok (.iload 5, 2) := by decide +kernel
theorem dX9_withMore_18 : decode cX9_withMore 18 = .ok (.aload_n 0, 1) := by decide +kernel
theorem dX9_withMore_19 : decode cX9_withMore 19 = .ok (.getfield 11, 3) := by decide +kernel
theorem dX9_withMore_22 : decode cX9_withMore 22 = .ok (.iload 5, 2) := by decide +kernel
theorem dX9_withMore_24 : decode cX9_withMore 24 = .ok (.iaload, 1) := by decide +kernel
theorem dX9_withMore_25 : decode cX9_withMore 25 = .ok (.iastore, 1) := by decide +kernel
theorem dX9_withMore_26 : decode cX9_withMore 26 = .ok (.iinc 5 1, 3) := by decide +kernel
theorem dX9_withMore_29 : decode cX9_withMore 29 = .ok (.goto (-26), 3) := by decide +kernel
theorem dX9_withMore_32 : decode cX9_withMore 32 = .ok (.iload 4, 2) := by decide +kernel
theorem dX9_withMore_34 : decode cX9_withMore 34 = .ok (.ifCond .le 15, 3) := by decide +kernel
theorem dX9_withMore_37 : decode cX9_withMore 37 = .ok (.aload_n 0, 1) := by decide +kernel
theorem dX9_withMore_38 : decode cX9_withMore 38 = .ok (.getfield 31, 3) := by decide +kernel
theorem dX9_withMore_41 : decode cX9_withMore 41 = .ok (.aload_n 0, 1) := by decide +kernel
theorem dX9_withMore_42 : decode cX9_withMore 42 = .ok (.getfield 91, 3) := by decide +kernel
theorem dX9_withMore_45 : decode cX9_withMore 45 = .ok (.iload_n 1, 1) := by decide +kernel
theorem dX9_withMore_46 : decode cX9_withMore 46 = .ok (.iconst 1, 1) := by decide +kernel
theorem dX9_withMore_47 : decode cX9_withMore 47 = .ok (.iadd, 1) := by decide +kernel
theorem dX9_withMore_48 : decode cX9_withMore 48 = .ok (.iastore, 1) := by decide +kernel
theorem dX9_withMore_49 : decode cX9_withMore 49 = .ok (.iload 4, 2) := by decide +kernel
theorem dX9_withMore_51 : decode cX9_withMore 51 = .ok (.iconst 1, 1) := by decide +kernel
theorem dX9_withMore_52 : decode cX9_withMore 52 = .ok (.if_icmp .le 17, 3) := by decide +kernel
theorem dX9_withMore_55 : decode cX9_withMore 55 = .ok (.aload_n 0, 1) := by decide +kernel
theorem dX9_withMore_56 : decode cX9_withMore 56 = .ok (.getfield 31, 3) := by decide +kernel
theorem dX9_withMore_59 : decode cX9_withMore 59 = .ok (.aload_n 0, 1) := by decide +kernel
theorem dX9_withMore_60 : decode cX9_withMore 60 = .ok (.getfield 91, 3) := by decide +kernel
theorem dX9_withMore_63 : decode cX9_withMore 63 = .ok (.iconst 1, 1) := by decide +kernel
theorem dX9_withMore_64 : decode cX9_withMore 64 = .ok (.iadd, 1) := by decide +kernel
theorem dX9_withMore_65 : decode cX9_withMore 65 = .ok (.iload_n 2, 1) := by decide +kernel
theorem dX9_withMore_66 : decode cX9_withMore 66 = .ok (.iconst 1, 1) := by decide +kernel
theorem dX9_withMore_67 : decode cX9_withMore 67 = .ok (.iadd, 1) := by decide +kernel
theorem dX9_withMore_68 : decode cX9_withMore 68 = .ok (.iastore, 1) := by decide +kernel
theorem dX9_withMore_69 : decode cX9_withMore 69 = .ok (.iload 4, 2) := by decide +kernel
theorem dX9_withMore_71 : decode cX9_withMore 71 = .ok (.iconst 2, 1) := by decide +kernel
theorem dX9_withMore_72 : decode cX9_withMore 72 = .ok (.if_icmp .le 17, 3) := by decide +kernel
theorem dX9_withMore_75 : decode cX9_withMore 75 = .ok (.aload_n 0, 1) := by decide +kernel
theorem dX9_withMore_76 : decode cX9_withMore 76 = .ok (.getfield 31, 3) := by decide +kernel
theorem dX9_withMore_79 : decode cX9_withMore 79 = .ok (.aload_n 0, 1) := by decide +kernel
theorem dX9_withMore_80 : decode cX9_withMore 80 = .ok (.getfield 91, 3) := by decide +kernel
theorem dX9_withMore_83 : decode cX9_withMore 83 = .ok (.iconst 2, 1) := by decide +kernel
theorem dX9_withMore_84 : decode cX9_withMore 84 = .ok (.iadd, 1) := by decide +kernel
theorem dX9_withMore_85 : decode cX9_withMore 85 = .ok (.iload_n 3, 1) := by decide +kernel
theorem dX9_withMore_86 : decode cX9_withMore 86 = .ok (.iconst 1, 1) := by decide +kernel
theorem dX9_withMore_87 : decode cX9_withMore 87 = .ok (.iadd, 1) := by decide +kernel
theorem dX9_withMore_88 : decode cX9_withMore 88 = .ok (.iastore, 1) := by decide +kernel
theorem dX9_withMore_89 : decode cX9_withMore 89 = .ok (.aload_n 0, 1) := by decide +kernel
theorem dX9_withMore_90 : decode cX9_withMore 90 = .ok (.aload_n 0, 1) := by decide +kernel
theorem dX9_withMore_91 : decode cX9_withMore 91 = .ok (.getfield 88, 3) := by decide +kernel
theorem dX9_withMore_94 : decode cX9_withMore 94 = .ok (.aload_n 0, 1) := by decide +kernel
theorem dX9_withMore_95 : decode cX9_withMore 95 = .ok (.getfield 91, 3) := by decide +kernel
theorem dX9_withMore_98 : decode cX9_withMore 98 = .ok (.iload 4, 2) := by decide +kernel
theorem dX9_withMore_100 : decode cX9_withMore 100 = .ok (.iadd, 1) := by decide +kernel
theorem dX9_withMore_101 : decode cX9_withMore 101 = .ok (.invokevirtual 165, 3) := by decide +kernel
theorem dX9_withMore_104 : decode cX9_withMore 104 = .ok (.lreturn, 1) := by decide +kernel
set_option maxRecDepth 20000 in
theorem ggX9_kappaOne_X9_withMore : GoodIn wsX9_kappaOne wsX9_withMore := goodIn_r _ [5, 6, 7, 8, 9, 10, 11, 12, 4, 13, 14, 15, 16, 17, 18, 19, 20, 21, 22, 23, 24, 25, 26, 27, 28, 29, 30, 31, 32, 33, 34, 35, 36, 37, 38, 39, 40, 41, 42, 43, 44, 45, 46, 47, 48, 49, 50, 51, 52, 53, 54, 55, 56, 57, 58, 59, 60, 61, 62, 63, 64, 65, 66, 67, 68, 69, 70, 71, 72, 73, 74, 75, 76] (by decide +kernel) (by decide +kernel)
set_option maxRecDepth 20000 in
theorem gX9_kappaOne_X9_withMore : GoodIn wsX9_kappaOne (wsV RX9 194 RX9 yX9_withMore wsX9_withMore) := goodIn_app (goodIn_of _ (by decide +kernel)) ggX9_kappaOne_X9_withMore
theorem dX9_kappaOne_0 : decode cX9_kappaOne 0 = .ok (.aload_n 0, 1) := by decide +kernel
theorem dX9_kappaOne_1 : decode cX9_kappaOne 1 = .ok (.iload_n 1, 1) := by decide +kernel
theorem dX9_kappaOne_2 : decode cX9_kappaOne 2 = .ok (.iconst 0, 1) := by decide +kernel
theorem dX9_kappaOne_3 : decode cX9_kappaOne 3 = .ok (.iconst 0, 1) := by decide +kernel
theorem dX9_kappaOne_4 : decode cX9_kappaOne 4 = .ok (.iconst 1, 1) := by decide +kernel
theorem dX9_kappaOne_5 : decode cX9_kappaOne 5 = .ok (.invokevirtual 194, 3) := by decide +kernel
theorem dX9_kappaOne_8 : decode cX9_kappaOne 8 = .ok (.lreturn, 1) := by decide +kernel
set_option maxRecDepth 20000 in
theorem ggX9_kappaTwo_X9_withMore : GoodIn wsX9_kappaTwo wsX9_withMore := goodIn_r _ [5, 6, 7, 8, 9, 10, 11, 12, 4, 13, 14, 15, 16, 17, 18, 19, 20, 21, 22, 23, 24, 25, 26, 27, 28, 29, 30, 31, 32, 33, 34, 39, 40, 41, 42, 43, 44, 45, 46, 47, 48, 49, 50, 51, 52, 53, 54, 55, 56, 57, 58, 59, 60, 61, 62, 63, 64, 65, 66, 67, 68, 69, 70, 71, 72, 73, 74, 75, 76, 77, 78, 79, 80] (by decide +kernel) (by decide +kernel)
set_option maxRecDepth 20000 in
theorem gX9_kappaTwo_X9_withMore : GoodIn wsX9_kappaTwo (wsV RX9 194 RX9 yX9_withMore wsX9_withMore) := goodIn_app (goodIn_of _ (by decide +kernel)) ggX9_kappaTwo_X9_withMore
set_option maxRecDepth 20000 in
theorem ggX9_kappaTwo_X9_kappaOne : GoodIn wsX9_kappaTwo wsX9_kappaOne := goodIn_r _ [38, 1, 2, 3, 4, 5, 6, 7, 8, 9, 10, 11, 12, 13, 14, 15, 16, 17, 18, 19, 20, 21, 22, 23, 24, 25, 26, 27, 28, 29, 30, 31, 32, 33, 34, 39, 40, 41, 42, 43, 44, 45, 46, 47, 48, 49, 50, 51, 52, 53, 54, 55, 56, 57, 58, 59, 60, 61, 62, 63, 64, 65, 66, 67, 68, 69, 70, 71, 72, 73, 74, 75, 76, 77, 78, 79, 80] (by decide +kernel) (by decide +kernel)
set_option maxRecDepth 20000 in
theorem gX9_kappaTwo_X9_kappaOne : GoodIn wsX9_kappaTwo (wsV RX9 198 RX9 yX9_kappaOne wsX9_kappaOne) := goodIn_app (goodIn_of _ (by decide +kernel)) ggX9_kappaTwo_X9_kappaOne
theorem dX9_kappaTwo_0 : decode cX9_kappaTwo 0 = .ok (.aload_n 0, 1) := by decide +kernel
theorem dX9_kappaTwo_1 : decode cX9_kappaTwo 1 = .ok (.iload_n 1, 1) := by decide +kernel
theorem dX9_kappaTwo_2 : decode cX9_kappaTwo 2 = .ok (.iload_n 2, 1) := by decide +kernel
theorem dX9_kappaTwo_3 : decode cX9_kappaTwo 3 = .ok (.iconst 0, 1) := by decide +kernel
theorem dX9_kappaTwo_4 : decode cX9_kappaTwo 4 = .ok (.iconst 2, 1) := by decide +kernel
theorem dX9_kappaTwo_5 : decode cX9_kappaTwo 5 = .ok (.invokevirtual 194, 3) := by decide +kernel
theorem dX9_kappaTwo_8 : decode cX9_kappaTwo 8 = .ok (.aload_n 0, 1) := by decide +kernel
theorem dX9_kappaTwo_9 : decode cX9_kappaTwo 9 = .ok (.iload_n 1, 1) := by decide +kernel
theorem dX9_kappaTwo_10 : decode cX9_kappaTwo 10 = .ok (.iload_n 2, 1) := by decide +kernel
theorem dX9_kappaTwo_11 : decode cX9_kappaTwo 11 = .ok (.iadd, 1) := by decide +kernel
theorem dX9_kappaTwo_12 : decode cX9_kappaTwo 12 = .ok (.invokevirtual 198, 3) := by decide +kernel
theorem dX9_kappaTwo_15 : decode cX9_kappaTwo 15 = .ok (.lsub, 1) := by decide +kernel
theorem dX9_kappaTwo_16 : decode cX9_kappaTwo 16 = .ok (.lreturn, 1) := by decide +kernel
set_option maxRecDepth 20000 in
theorem ggX9_kappa_X9_in : GoodIn wsX9_kappa wsX9_in := goodIn_r _ [9] (by decide +kernel) (by decide +kernel)
set_option maxRecDepth 20000 in
theorem gX9_kappa_X9_in : GoodIn wsX9_kappa (va_wsS RX9 110 yX9_in wsX9_in) := goodIn_app (goodIn_of _ (by decide +kernel)) ggX9_kappa_X9_in
set_option maxRecDepth 20000 in
theorem ggX9_kappa_X9_numberOfMarks : GoodIn wsX9_kappa wsX9_numberOfMarks := goodIn_r _ [13, 14, 15, 16, 5, 17, 18, 19, 8, 20, 21, 22, 23, 24, 25, 26, 27, 4, 28, 29, 30, 1, 31, 32, 33, 34, 35, 36, 37, 38, 39, 63, 64, 65, 66, 67, 68, 69, 70, 71, 72, 73, 74, 75, 76, 77, 78, 79, 80, 81, 82, 83, 84, 85, 86, 87, 88, 89, 90, 91, 92, 93, 94, 95, 96, 97, 98, 99, 100, 101, 102, 103, 104] (by decide +kernel) (by decide +kernel)
set_option maxRecDepth 20000 in
theorem gX9_kappa_X9_numberOfMarks : GoodIn wsX9_kappa (wsV RX9 169 RX9 yX9_numberOfMarks wsX9_numberOfMarks) := goodIn_app (goodIn_of _ (by decide +kernel)) ggX9_kappa_X9_numberOfMarks
set_option maxRecDepth 20000 in
theorem ggX9_kappa_X9_kappaOne : GoodIn wsX9_kappa wsX9_kappaOne := goodIn_r _ [43, 44, 45, 46, 8, 47, 14, 15, 16, 5, 17, 18, 19, 20, 21, 22, 23, 24, 25, 26, 27, 4, 28, 29, 30, 1, 31, 32, 33, 34, 35, 36, 37, 38, 39, 63, 64, 65, 66, 67, 68, 69, 70, 71, 72, 73, 74, 75, 76, 77, 78, 79, 80, 81, 82, 83, 84, 85, 86, 87, 88, 89, 90, 91, 92, 93, 94, 95, 96, 97, 98, 99, 100, 101, 102, 103, 104] (by decide +kernel) (by decide +kernel)
set_option maxRecDepth 20000 in
theorem gX9_kappa_X9_kappaOne : GoodIn wsX9_kappa (wsV RX9 198 RX9 yX9_kappaOne wsX9_kappaOne) := goodIn_app (goodIn_of _ (by decide +kernel)) ggX9_kappa_X9_kappaOne
set_option maxRecDepth 20000 in
theorem ggX9_kappa_X9_kappaTwo : GoodIn wsX9_kappa wsX9_kappaTwo := goodIn_r _ [51, 44, 45, 46, 8, 47, 14, 15, 16, 5, 17, 18, 19, 20, 21, 22, 23, 24, 25, 26, 27, 4, 28, 29, 30, 1, 31, 32, 33, 34, 35, 36, 37, 38, 39, 40, 41, 42, 43, 63, 64, 65, 66, 67, 68, 69, 70, 71, 72, 73, 74, 75, 76, 77, 78, 79, 80, 81, 82, 83, 84, 85, 86, 87, 88, 89, 90, 91, 92, 93, 94, 95, 96, 97, 98, 99, 100, 101, 102, 103, 104] (by decide +kernel) (by decide +kernel)
set_option maxRecDepth 20000 in
theorem gX9_kappa_X9_kappaTwo : GoodIn wsX9_kappa (wsV RX9 203 RX9 yX9_kappaTwo wsX9_kappaTwo) := goodIn_app (goodIn_of _ (by decide +kernel)) ggX9_kappa_X9_kappaTwo
set_option maxRecDepth 20000 in
theorem ggX9_kappa_X9_withMore : GoodIn wsX9_kappa wsX9_withMore := goodIn_r _ [47, 14, 15, 16, 5, 17, 18, 19, 8, 20, 21, 22, 23, 24, 25, 26, 27, 4, 28, 29, 30, 1, 31, 32, 33, 34, 35, 36, 37, 38, 39, 63, 64, 65, 66, 67, 68, 69, 70, 71, 72, 73, 74, 75, 76, 77, 78, 79, 80, 81, 82, 83, 84, 85, 86, 87, 88, 89, 90, 91, 92, 93, 94, 95, 96, 97, 98, 99, 100, 101, 102, 103, 104] (by decide +kernel) (by decide +kernel)
set_option maxRecDepth 20000 in
theorem gX9_kappa_X9_withMore : GoodIn wsX9_kappa (wsV RX9 194 RX9 yX9_withMore wsX9_withMore) := goodIn_app (goodIn_of _ (by decide +kernel)) ggX9_kappa_X9_withMore
set_option maxRecDepth 20000 in
theorem ggX9_kappa_X9_line : GoodIn wsX9_kappa wsX9_line := goodIn_r _ [54, 55, 56] (by decide +kernel) (by decide +kernel)
set_option maxRecDepth 20000 in
theorem gX9_kappa_X9_line : GoodIn wsX9_kappa (va_wsS RX9 173 yX9_line wsX9_line) := goodIn_app (goodIn_of _ (by decide +kernel)) ggX9_kappa_X9_line
set_option maxRecDepth 20000 in
theorem ggX9_kappa_X9_part : GoodIn wsX9_kappa wsX9_part := goodIn_r _ [59, 60, 61, 8, 62] (by decide +kernel) (by decide +kernel)
set_option maxRecDepth 20000 in
theorem gX9_kappa_X9_part : GoodIn wsX9_kappa (va_wsS RX9 177 yX9_part wsX9_part) := goodIn_app (goodIn_of _ (by decide +kernel)) ggX9_kappa_X9_part
theorem dX9_kappa_0 : decode cX9_kappa 0 = .ok (.iload_n 1, 1) := by decide +kernel
theorem dX9_kappa_1 : decode cX9_kappa 1 = .ok (.i2l, 1) := by decide +kernel
theorem dX9_kappa_2 : decode cX9_kappa 2 = .ok (.ldc2_w 142, 3) := by decide +kernel
theorem dX9_kappa_5 : decode cX9_kappa 5 = .ok (.ldc2_w 201, 3) := by decide +kernel
theorem dX9_kappa_8 : decode cX9_kappa 8 = .ok (.invokestatic 110, 3) := by decide +kernel
theorem dX9_kappa_11 : decode cX9_kappa 11 = .ok (.ifCond .eq 58, 3) := by decide +kernel
theorem dX9_kappa_14 : decode cX9_kappa 14 = .ok (.iload_n 2, 1) := by decide +kernel
theorem dX9_kappa_15 : decode cX9_kappa 15 = .ok (.i2l, 1) := by decide +kernel
theorem dX9_kappa_16 : decode cX9_kappa 16 = .ok (.ldc2_w 142, 3) := by decide +kernel
theorem dX9_kappa_19 : decode cX9_kappa 19 = .ok (.ldc2_w 201, 3) := by decide +kernel
theorem dX9_kappa_22 : decode cX9_kappa 22 = .ok (.invokestatic 110, 3) := by decide +kernel
theorem dX9_kappa_25 : decode cX9_kappa 25 = .ok (.ifCond .eq 44, 3) := by decide +kernel
theorem dX9_kappa_28 : decode cX9_kappa 28 = .ok (.iload_n 3, 1) := by decide +kernel
theorem dX9_kappa_29 : decode cX9_kappa 29 = .ok (.i2l, 1) := by decide +kernel
theorem dX9_kappa_30 : decode cX9_kappa 30 = .ok (.ldc2_w 142, 3) := by decide +kernel
theorem dX9_kappa_33 : decode cX9_kappa 33 = .ok (.ldc2_w 201, 3) := by decide +kernel
theorem dX9_kappa_36 : decode cX9_kappa 36 = .ok (.invokestatic 110, 3) := by decide +kernel
theorem dX9_kappa_39 : decode cX9_kappa 39 = .ok (.ifCond .eq 30, 3) := by decide +kernel
theorem dX9_kappa_42 : decode cX9_kappa 42 = .ok (.iload_n 1, 1) := by decide +kernel
theorem dX9_kappa_43 : decode cX9_kappa 43 = .ok (.ifCond .ge 7, 3) := by decide +kernel
theorem dX9_kappa_46 : decode cX9_kappa 46 = .ok (.iload_n 2, 1) := by decide +kernel
theorem dX9_kappa_47 : decode cX9_kappa 47 = .ok (.ifCond .ge 22, 3) := by decide +kernel
theorem dX9_kappa_50 : decode cX9_kappa 50 = .ok (.iload_n 2, 1) := by decide +kernel
theorem dX9_kappa_51 : decode cX9_kappa 51 = .ok (.ifCond .ge 7, 3) := by decide +kernel
theorem dX9_kappa_54 : decode cX9_kappa 54 = .ok (.iload_n 3, 1) := by decide +kernel
theorem dX9_kappa_55 : decode cX9_kappa 55 = .ok (.ifCond .ge 14, 3) := by decide +kernel
theorem dX9_kappa_58 : decode cX9_kappa 58 = .ok (.iload 4, 2) := by decide +kernel
theorem dX9_kappa_60 : decode cX9_kappa 60 = .ok (.i2l, 1) := by decide +kernel
theorem dX9_kappa_61 : decode cX9_kappa 61 = .ok (.lconst 0, 1) := by decide +kernel
theorem dX9_kappa_62 : decode cX9_kappa 62 = .ok (.lconst 1, 1) := by decide +kernel
theorem dX9_kappa_63 : decode cX9_kappa 63 = .ok (.invokestatic 110, 3) := by decide +kernel
theorem dX9_kappa_66 : decode cX9_kappa 66 = .ok (.ifCond .ne 7, 3) := by decide +kernel
theorem dX9_kappa_69 : decode cX9_kappa 69 = .ok (.ldc2_w 181, 3) := by decide +kernel
theorem dX9_kappa_72 : decode cX9_kappa 72 = .ok (.lreturn, 1) := by decide +kernel
theorem dX9_kappa_73 : decode cX9_kappa 73 = .ok (.iload_n 1, 1) := by decide +kernel
theorem dX9_kappa_74 : decode cX9_kappa 74 = .ok (.ifCond .ge 12, 3) := by decide +kernel
theorem dX9_kappa_77 : decode cX9_kappa 77 = .ok (.aload_n 0, 1) := by decide +kernel
theorem dX9_kappa_78 : decode cX9_kappa 78 = .ok (.invokevirtual 169, 3) := by decide +kernel
theorem dX9_kappa_81 : decode cX9_kappa 81 = .ok (.lstore 5, 2) := by decide +kernel
theorem dX9_kappa_83 : decode cX9_kappa 83 = .ok (.goto 83, 3) := by decide +kernel
theorem dX9_kappa_86 : decode cX9_kappa 86 = .ok (.iload_n 2, 1) := by decide +kernel
theorem dX9_kappa_87 : decode cX9_kappa 87 = .ok (.ifCond .ge 13, 3) := by decide +kernel
theorem dX9_kappa_90 : decode cX9_kappa 90 = .ok (.aload_n 0, 1) := by decide +kernel
theorem dX9_kappa_91 : decode cX9_kappa 91 = .ok (.iload_n 1, 1) := by decide +kernel
theorem dX9_kappa_92 : decode cX9_kappa 92 = .ok (.invokevirtual 198, 3) := by decide +kernel
theorem dX9_kappa_95 : decode cX9_kappa 95 = .ok (.lstore 5, 2) := by decide +kernel
theorem dX9_kappa_97 : decode cX9_kappa 97 = .ok (.goto 69, 3) := by decide +kernel
theorem dX9_kappa_100 : decode cX9_kappa 100 = .ok (.iload_n 3, 1) := by decide +kernel
theorem dX9_kappa_101 : decode cX9_kappa 101 = .ok (.ifCond .ge 14, 3) := by decide +kernel
theorem dX9_kappa_104 : decode cX9_kappa 104 = .ok (.aload_n 0, 1) := by decide +kernel
theorem dX9_kappa_105 : decode cX9_kappa 105 = .ok (.iload_n 1, 1) := by decide +kernel
theorem dX9_kappa_106 : decode cX9_kappa 106 = .ok (.iload_n 2, 1) := by decide +kernel
theorem dX9_kappa_107 : decode cX9_kappa 107 = .ok (.invokevirtual 203, 3) := by decide +kernel
theorem dX9_kappa_110 : decode cX9_kappa 110 = .ok (.lstore 5, 2) := by decide +kernel
theorem dX9_kappa_112 : decode cX9_kappa 112 = .ok (.goto 54, 3) := by decide +kernel
theorem dX9_kappa_115 : decode cX9_kappa 115 = .ok (.aload_n 0, 1) := by decide +kernel
theorem dX9_kappa_116 : decode cX9_kappa 116 = .ok (.iload_n 1, 1) := by decide +kernel
theorem dX9_kappa_117 : decode cX9_kappa 117 = .ok (.iload_n 2, 1) := by decide +kernel
theorem dX9_kappa_118 : decode cX9_kappa 118 = .ok (.iload_n 3, 1) := by decide +kernel
theorem dX9_kappa_119 : decode cX9_kappa 119 = .ok (.iconst 3, 1) := by decide +kernel
theorem dX9_kappa_120 : decode cX9_kappa 120 = .ok (.invokevirtual 194, 3) := by decide +kernel
theorem dX9_kappa_123 : decode cX9_kappa 123 = .ok (.aload_n 0, 1) := by decide +kernel
theorem dX9_kappa_124 : decode cX9_kappa 124 = .ok (.iload_n 1, 1) := by decide +kernel
theorem dX9_kappa_125 : decode cX9_kappa 125 = .ok (.iload_n 2, 1) := by decide +kernel
theorem dX9_kappa_126 : decode cX9_kappa 126 = .ok (.iadd, 1) := by decide +kernel
theorem dX9_kappa_127 : decode cX9_kappa 127 = .ok (.iload_n 3, 1) := by decide +kernel
theorem dX9_kappa_128 : decode cX9_kappa 128 = .ok (.invokevirtual 203, 3) := by decide +kernel
theorem dX9_kappa_131 : decode cX9_kappa 131 = .ok (.lsub, 1) := by decide +kernel
theorem dX9_kappa_132 : decode cX9_kappa 132 = .ok (.aload_n 0, 1) := by decide +kernel
theorem dX9_kappa_133 : decode cX9_kappa 133 = .ok (.iload_n 1, 1) := by decide +kernel
theorem dX9_kappa_134 : decode cX9_kappa 134 = .ok (.iload_n 3, 1) := by decide +kernel
theorem dX9_kappa_135 : decode cX9_kappa 135 = .ok (.iadd, 1) := by decide +kernel
theorem dX9_kappa_136 : decode cX9_kappa 136 = .ok (.iload_n 2, 1) := by decide +kernel
theorem dX9_kappa_137 : decode cX9_kappa 137 = .ok (.invokevirtual 203, 3) := by decide +kernel
theorem dX9_kappa_140 : decode cX9_kappa 140 = .ok (.lsub, 1) := by decide +kernel
theorem dX9_kappa_141 : decode cX9_kappa 141 = .ok (.aload_n 0, 1) := by decide +kernel
theorem dX9_kappa_142 : decode cX9_kappa 142 = .ok (.iload_n 2, 1) := by decide +kernel
theorem dX9_kappa_143 : decode cX9_kappa 143 = .ok (.iload_n 3, 1) := by decide +kernel
theorem dX9_kappa_144 : decode cX9_kappa 144 = .ok (.iadd, 1) := by decide +kernel
theorem dX9_kappa_145 : decode cX9_kappa 145 = .ok (.iload_n 1, 1) := by decide +kernel
theorem dX9_kappa_146 : decode cX9_kappa 146 = .ok (.invokevirtual 203, 3) := by decide +kernel
theorem dX9_kappa_149 : decode cX9_kappa 149 = .ok (.lsub, 1) := by decide +kernel
theorem dX9_kappa_150 : decode cX9_kappa 150 = .ok (.ldc2_w 114, 3) := by decide +kernel
theorem dX9_kappa_153 : decode cX9_kappa 153 = .ok (.aload_n 0, 1) := by decide +kernel
theorem dX9_kappa_154 : decode cX9_kappa 154 = .ok (.iload_n 1, 1) := by decide +kernel
theorem dX9_kappa_155 : decode cX9_kappa 155 = .ok (.iload_n 2, 1) := by decide +kernel
theorem dX9_kappa_156 : decode cX9_kappa 156 = .ok (.iadd, 1) := by decide +kernel
theorem dX9_kappa_157 : decode cX9_kappa 157 = .ok (.iload_n 3, 1) := by decide +kernel
theorem dX9_kappa_158 : decode cX9_kappa 158 = .ok (.iadd, 1) := by decide +kernel
theorem dX9_kappa_159 : decode cX9_kappa 159 = .ok (.invokevirtual 198, 3) := by decide +kernel
theorem dX9_kappa_162 : decode cX9_kappa 162 = .ok (.lmul, 1) := by decide +kernel
theorem dX9_kappa_163 : decode cX9_kappa 163 = .ok (.lsub, 1) := by decide +kernel
theorem dX9_kappa_164 : decode cX9_kappa 164 = .ok (.lstore 5, 2) := by decide +kernel
theorem dX9_kappa_166 : decode cX9_kappa 166 = .ok (.lload 5, 2) := by decide +kernel
theorem dX9_kappa_168 : decode cX9_kappa 168 = .ok (.aload_n 0, 1) := by decide +kernel
theorem dX9_kappa_169 : decode cX9_kappa 169 = .ok (.getfield 88, 3) := by decide +kernel
theorem dX9_kappa_172 : decode cX9_kappa 172 = .ok (.invokestatic 173, 3) := by decide +kernel
theorem dX9_kappa_175 : decode cX9_kappa 175 = .ok (.iload 4, 2) := by decide +kernel
theorem dX9_kappa_177 : decode cX9_kappa 177 = .ok (.invokestatic 177, 3) := by decide +kernel
theorem dX9_kappa_180 : decode cX9_kappa 180 = .ok (.lreturn, 1) := by decide +kernel
set_option maxRecDepth 20000 in
theorem ggX9_isSplit_X9_in : GoodIn wsX9_isSplit wsX9_in := goodIn_r _ [5] (by decide +kernel) (by decide +kernel)
set_option maxRecDepth 20000 in
theorem gX9_isSplit_X9_in : GoodIn wsX9_isSplit (va_wsS RX9 110 yX9_in wsX9_in) := goodIn_app (goodIn_of _ (by decide +kernel)) ggX9_isSplit_X9_in
set_option maxRecDepth 20000 in
theorem ggX9_isSplit_X9_bits : GoodIn wsX9_isSplit wsX9_bits := goodIn_r _ [8] (by decide +kernel) (by decide +kernel)
set_option maxRecDepth 20000 in
theorem gX9_isSplit_X9_bits : GoodIn wsX9_isSplit (va_wsS RX9 206 yX9_bits wsX9_bits) := goodIn_app (goodIn_of _ (by decide +kernel)) ggX9_isSplit_X9_bits
theorem dX9_isSplit_0 : decode cX9_isSplit 0 = .ok (.iload_n 0, 1) := by decide +kernel
theorem dX9_isSplit_1 : decode cX9_isSplit 1 = .ok (.i2l, 1) := by decide +kernel
theorem dX9_isSplit_2 : decode cX9_isSplit 2 = .ok (.lconst 0, 1) := by decide +kernel
theorem dX9_isSplit_3 : decode cX9_isSplit 3 = .ok (.iconst 1, 1) := by decide +kernel
theorem dX9_isSplit_4 : decode cX9_isSplit 4 = .ok (.iload_n 1, 1) := by decide +kernel
theorem dX9_isSplit_5 : decode cX9_isSplit 5 = .ok (.ishl, 1) := by decide +kernel
theorem dX9_isSplit_6 : decode cX9_isSplit 6 = .ok (.iconst 1, 1) := by decide +kernel
theorem dX9_isSplit_7 : decode cX9_isSplit 7 = .ok (.isub, 1) := by decide +kernel
theorem dX9_isSplit_8 : decode cX9_isSplit 8 = .ok (.i2l, 1) := by decide +kernel
theorem dX9_isSplit_9 : decode cX9_isSplit 9 = .ok (.invokestatic 110, 3) := by decide +kernel
theorem dX9_isSplit_12 : decode cX9_isSplit 12 = .ok (.ifCond .eq 31, 3) := by decide +kernel
theorem dX9_isSplit_15 : decode cX9_isSplit 15 = .ok (.iload_n 0, 1) := by decide +kernel
theorem dX9_isSplit_16 : decode cX9_isSplit 16 = .ok (.iconst 1, 1) := by decide +kernel
theorem dX9_isSplit_17 : decode cX9_isSplit 17 = .ok (.iand, 1) := by decide +kernel
theorem dX9_isSplit_18 : decode cX9_isSplit 18 = .ok (.ifCond .ne 25, 3) := by decide +kernel
theorem dX9_isSplit_21 : decode cX9_isSplit 21 = .ok (.iload_n 0, 1) := by decide +kernel
theorem dX9_isSplit_22 : decode cX9_isSplit 22 = .ok (.invokestatic 206, 3) := by decide +kernel
theorem dX9_isSplit_25 : decode cX9_isSplit 25 = .ok (.i2l, 1) := by decide +kernel
theorem dX9_isSplit_26 : decode cX9_isSplit 26 = .ok (.ldc2_w 114, 3) := by decide +kernel
theorem dX9_isSplit_29 : decode cX9_isSplit 29 = .ok (.iload_n 1, 1) := by decide +kernel
theorem dX9_isSplit_30 : decode cX9_isSplit 30 = .ok (.iconst 2, 1) := by decide +kernel
theorem dX9_isSplit_31 : decode cX9_isSplit 31 = .ok (.isub, 1) := by decide +kernel
theorem dX9_isSplit_32 : decode cX9_isSplit 32 = .ok (.i2l, 1) := by decide +kernel
theorem dX9_isSplit_33 : decode cX9_isSplit 33 = .ok (.invokestatic 110, 3) := by decide +kernel
theorem dX9_isSplit_36 : decode cX9_isSplit 36 = .ok (.ifCond .eq 7, 3) := by decide +kernel
theorem dX9_isSplit_39 : decode cX9_isSplit 39 = .ok (.iconst 1, 1) := by decide +kernel
theorem dX9_isSplit_40 : decode cX9_isSplit 40 = .ok (.goto 4, 3) := by decide +kernel
theorem dX9_isSplit_43 : decode cX9_isSplit 43 = .ok (.iconst 0, 1) := by decide +kernel
theorem dX9_isSplit_44 : decode cX9_isSplit 44 = .ok (.ireturn, 1) := by decide +kernel
theorem dX9_goTogether_0 : decode cX9_goTogether 0 = .ok (.iload_n 0, 1) := by decide +kernel
theorem dX9_goTogether_1 : decode cX9_goTogether 1 = .ok (.iload_n 1, 1) := by decide +kernel
theorem dX9_goTogether_2 : decode cX9_goTogether 2 = .ok (.iand, 1) := by decide +kernel
theorem dX9_goTogether_3 : decode cX9_goTogether 3 = .ok (.ifCond .eq 17, 3) := by decide +kernel
theorem dX9_goTogether_6 : decode cX9_goTogether 6 = .ok (.iload_n 0, 1) := by decide +kernel
theorem dX9_goTogether_7 : decode cX9_goTogether 7 = .ok (.iload_n 1, 1) := by decide +kernel
theorem dX9_goTogether_8 : decode cX9_goTogether 8 = .ok (.iand, 1) := by decide +kernel
theorem dX9_goTogether_9 : decode cX9_goTogether 9 = .ok (.iload_n 0, 1) := by decide +kernel
theorem dX9_goTogether_10 : decode cX9_goTogether 10 = .ok (.if_icmp .eq 10, 3) := by decide +kernel
theorem dX9_goTogether_13 : decode cX9_goTogether 13 = .ok (.iload_n 0, 1) := by decide +kernel
theorem dX9_goTogether_14 : decode cX9_goTogether 14 = .ok (.iload_n 1, 1) := by decide +kernel
theorem dX9_goTogether_15 : decode cX9_goTogether 15 = .ok (.iand, 1) := by decide +kernel
theorem dX9_goTogether_16 : decode cX9_goTogether 16 = .ok (.iload_n 1, 1) := by decide +kernel
theorem dX9_goTogether_17 : decode cX9_goTogether 17 = .ok (.if_icmp .ne 7, 3) := by decide +kernel
theorem dX9_goTogether_20 : decode cX9_goTogether 20 = .ok (.iconst 1, 1) := by decide +kernel
theorem dX9_goTogether_21 : decode cX9_goTogether 21 = .ok (.goto 4, 3) := by decide +kernel
theorem dX9_goTogether_24 : decode cX9_goTogether 24 = .ok (.iconst 0, 1) := by decide +kernel
theorem dX9_goTogether_25 : decode cX9_goTogether 25 = .ok (.ireturn, 1) := by decide +kernel
theorem dX9_placeOf_0 : decode cX9_placeOf 0 = .ok (.iconst 0, 1) := by decide +kernel
theorem dX9_placeOf_1 : decode cX9_placeOf 1 = .ok (.istore_n 2, 1) := by decide +kernel
theorem dX9_placeOf_2 : decode cX9_placeOf 2 = .ok (.iload_n 2, 1) := by decide +kernel
theorem dX9_placeOf_3 : decode cX9_placeOf 3 = .ok (.aload_n 0, 1) := by decide +kernel
theorem dX9_placeOf_4 : decode cX9_placeOf 4 = .ok (.getfield 94, 3) := by decide +kernel
theorem dX9_placeOf_7 : decode cX9_placeOf 7 = .ok (.if_icmp .ge 21, 3) := by decide +kernel
theorem dX9_placeOf_10 : decode cX9_placeOf 10 = .ok (.aload_n 0, 1) := by decide +kernel
theorem dX9_placeOf_11 : decode cX9_placeOf 11 = .ok (.getfield 19, 3) := by decide +kernel
theorem dX9_placeOf_14 : decode cX9_placeOf 14 = .ok (.iload_n 2, 1) := by decide +kernel
theorem dX9_placeOf_15 : decode cX9_placeOf 15 = .ok (.iaload, 1) := by decide +kernel
theorem dX9_placeOf_16 : decode cX9_placeOf 16 = .ok (.iload_n 1, 1) := by decide +kernel
theorem dX9_placeOf_17 : decode cX9_placeOf 17 = .ok (.if_icmp .ne 5, 3) := by decide +kernel
theorem dX9_placeOf_20 : decode cX9_placeOf 20 = .ok (.iload_n 2, 1) := by decide +kernel
theorem dX9_placeOf_21 : decode cX9_placeOf 21 = .ok (.ireturn, 1) := by decide +kernel
theorem dX9_placeOf_22 : decode cX9_placeOf 22 = .ok (.iinc 2 1, 3) := by decide +kernel
theorem dX9_placeOf_25 : decode cX9_placeOf 25 = .ok (.goto (-23), 3) := by decide +kernel
theorem dX9_placeOf_28 : decode cX9_placeOf 28 = .ok (.bipush (-2), 2) := by decide +kernel
theorem dX9_placeOf_30 : decode cX9_placeOf 30 = .ok (.ireturn, 1) := by decide +kernel
set_option maxRecDepth 20000 in
theorem ggX9_mayCome_X9_goTogether : GoodIn wsX9_mayCome wsX9_goTogether := goodIn_r _ [6] (by decide +kernel) (by decide +kernel)
set_option maxRecDepth 20000 in
theorem gX9_mayCome_X9_goTogether : GoodIn wsX9_mayCome (va_wsS RX9 210 yX9_goTogether wsX9_goTogether) := goodIn_app (goodIn_of _ (by decide +kernel)) ggX9_mayCome_X9_goTogether
theorem dX9_mayCome_0 : decode cX9_mayCome 0 = .ok (.iconst 0, 1) := by decide +kernel
theorem dX9_mayCome_1 : decode cX9_mayCome 1 = .ok (.istore_n 2, 1) := by decide +kernel
theorem dX9_mayCome_2 : decode cX9_mayCome 2 = .ok (.iload_n 2, 1) := by decide +kernel
theorem dX9_mayCome_3 : decode cX9_mayCome 3 = .ok (.aload_n 0, 1) := by decide +kernel
theorem dX9_mayCome_4 : decode cX9_mayCome 4 = .ok (.getfield 94, 3) := by decide +kernel
theorem dX9_mayCome_7 : decode cX9_mayCome 7 = .ok (.if_icmp .ge 34, 3) := by decide +kernel
theorem dX9_mayCome_10 : decode cX9_mayCome 10 = .ok (.aload_n 0, 1) := by decide +kernel
theorem dX9_mayCome_11 : decode cX9_mayCome 11 = .ok (.getfield 19, 3) := by decide +kernel
theorem dX9_mayCome_14 : decode cX9_mayCome 14 = .ok (.iload_n 2, 1) := by decide +kernel
theorem dX9_mayCome_15 : decode cX9_mayCome 15 = .ok (.iaload, 1) := by decide +kernel
theorem dX9_mayCome_16 : decode cX9_mayCome 16 = .ok (.iload_n 1, 1) := by decide +kernel
theorem dX9_mayCome_17 : decode cX9_mayCome 17 = .ok (.if_icmp .eq 16, 3) := by decide +kernel
theorem dX9_mayCome_20 : decode cX9_mayCome 20 = .ok (.aload_n 0, 1) := by decide +kernel
theorem dX9_mayCome_21 : decode cX9_mayCome 21 = .ok (.getfield 19, 3) := by decide +kernel
theorem dX9_mayCome_24 : decode cX9_mayCome 24 = .ok (.iload_n 2, 1) := by decide +kernel
theorem dX9_mayCome_25 : decode cX9_mayCome 25 = .ok (.iaload, 1) := by decide +kernel
theorem dX9_mayCome_26 : decode cX9_mayCome 26 = .ok (.iload_n 1, 1) := by decide +kernel
theorem dX9_mayCome_27 : decode cX9_mayCome 27 = .ok (.invokestatic 210, 3) := by decide +kernel
theorem dX9_mayCome_30 : decode cX9_mayCome 30 = .ok (.ifCond .ne 5, 3) := by decide +kernel
theorem dX9_mayCome_33 : decode cX9_mayCome 33 = .ok (.iconst 0, 1) := by decide +kernel
theorem dX9_mayCome_34 : decode cX9_mayCome 34 = .ok (.ireturn, 1) := by decide +kernel
theorem dX9_mayCome_35 : decode cX9_mayCome 35 = .ok (.iinc 2 1, 3) := by decide +kernel
theorem dX9_mayCome_38 : decode cX9_mayCome 38 = .ok (.goto (-36), 3) := by decide +kernel
theorem dX9_mayCome_41 : decode cX9_mayCome 41 = .ok (.iconst 1, 1) := by decide +kernel
theorem dX9_mayCome_42 : decode cX9_mayCome 42 = .ok (.ireturn, 1) := by decide +kernel
set_option maxRecDepth 20000 in
theorem ggX9_leaves__X9_in : GoodIn wsX9_leaves_ wsX9_in := goodIn_r _ [8] (by decide +kernel) (by decide +kernel)
set_option maxRecDepth 20000 in
theorem gX9_leaves__X9_in : GoodIn wsX9_leaves_ (va_wsS RX9 110 yX9_in wsX9_in) := goodIn_app (goodIn_of _ (by decide +kernel)) ggX9_leaves__X9_in
set_option maxRecDepth 20000 in
theorem ggX9_leaves__X9_begins : GoodIn wsX9_leaves_ wsX9_begins := goodIn_r _ [12, 13, 14, 15, 16, 7, 17, 18, 19, 3, 4, 20, 21, 30, 31, 32, 33, 34, 35, 36, 37, 38, 39, 40, 41, 42, 43, 44, 45, 46, 47, 48, 49, 50, 51, 52, 53, 54, 55, 56, 57, 58, 59, 60, 61, 62, 63, 64, 65, 66, 67, 68, 69, 70, 71] (by decide +kernel) (by decide +kernel)
set_option maxRecDepth 20000 in
theorem gX9_leaves__X9_begins : GoodIn wsX9_leaves_ (wsV RX9 116 RX9 yX9_begins wsX9_begins) := goodIn_app (goodIn_of _ (by decide +kernel)) ggX9_leaves__X9_begins
set_option maxRecDepth 20000 in
theorem ggX9_leaves__X9_ends : GoodIn wsX9_leaves_ wsX9_ends := goodIn_r _ [25, 26, 13, 27, 28, 29, 14, 15, 16, 7, 17, 18, 19, 3, 4, 20, 21, 30, 31, 32, 33, 34, 35, 36, 37, 38, 39, 40, 41, 42, 43, 44, 45, 46, 47, 48, 49, 50, 51, 52, 53, 54, 55, 56, 57, 58, 59, 60, 61, 62, 63, 64, 65, 66, 67, 68, 69, 70, 71] (by decide +kernel) (by decide +kernel)
set_option maxRecDepth 20000 in
theorem gX9_leaves__X9_ends : GoodIn wsX9_leaves_ (wsV RX9 119 RX9 yX9_ends wsX9_ends) := goodIn_app (goodIn_of _ (by decide +kernel)) ggX9_leaves__X9_ends
theorem dX9_leaves__0 : decode cX9_leaves_ 0 = .ok (.iload_n 1, 1) := by decide +kernel
theorem dX9_leaves__1 : decode cX9_leaves_ 1 = .ok (.i2l, 1) := by decide +kernel
theorem dX9_leaves__2 : decode cX9_leaves_ 2 = .ok (.ldc2_w 128, 3) := by decide +kernel
theorem dX9_leaves__5 : decode cX9_leaves_ 5 = .ok (.ldc2_w 214, 3) := by decide +kernel
theorem dX9_leaves__8 : decode cX9_leaves_ 8 = .ok (.invokestatic 110, 3) := by decide +kernel
theorem dX9_leaves__11 : decode cX9_leaves_ 11 = .ok (.ifCond .ne 5, 3) := by decide +kernel
theorem dX9_leaves__14 : decode cX9_leaves_ 14 = .ok (.iconst (-1), 1) := by decide +kernel
theorem dX9_leaves__15 : decode cX9_leaves_ 15 = .ok (.ireturn, 1) := by decide +kernel
theorem dX9_leaves__16 : decode cX9_leaves_ 16 = .ok (.aload_n 0, 1) := by decide +kernel
theorem dX9_leaves__17 : decode cX9_leaves_ 17 = .ok (.getfield 15, 3) := by decide +kernel
theorem dX9_leaves__20 : decode cX9_leaves_ 20 = .ok (.istore_n 2, 1) := by decide +kernel
theorem dX9_leaves__21 : decode cX9_leaves_ 21 = .ok (.aload_n 0, 1) := by decide +kernel
theorem dX9_leaves__22 : decode cX9_leaves_ 22 = .ok (.invokevirtual 116, 3) := by decide +kernel
theorem dX9_leaves__25 : decode cX9_leaves_ 25 = .ok (.aload_n 0, 1) := by decide +kernel
theorem dX9_leaves__26 : decode cX9_leaves_ 26 = .ok (.iload_n 1, 1) := by decide +kernel
theorem dX9_leaves__27 : decode cX9_leaves_ 27 = .ok (.putfield 15, 3) := by decide +kernel
theorem dX9_leaves__30 : decode cX9_leaves_ 30 = .ok (.aload_n 0, 1) := by decide +kernel
theorem dX9_leaves__31 : decode cX9_leaves_ 31 = .ok (.iconst 0, 1) := by decide +kernel
theorem dX9_leaves__32 : decode cX9_leaves_ 32 = .ok (.putfield 94, 3) := by decide +kernel
theorem dX9_leaves__35 : decode cX9_leaves_ 35 = .ok (.aload_n 0, 1) := by decide +kernel
theorem dX9_leaves__36 : decode cX9_leaves_ 36 = .ok (.invokevirtual 119, 3) := by decide +kernel
theorem dX9_leaves__39 : decode cX9_leaves_ 39 = .ok (.iload_n 2, 1) := by decide +kernel
theorem dX9_leaves__40 : decode cX9_leaves_ 40 = .ok (.ireturn, 1) := by decide +kernel
set_option maxRecDepth 20000 in
theorem ggX9_comes_X9_sorts : GoodIn wsX9_comes wsX9_sorts := goodIn_r _ [6] (by decide +kernel) (by decide +kernel)
set_option maxRecDepth 20000 in
theorem gX9_comes_X9_sorts : GoodIn wsX9_comes (va_wsS RX9 130 yX9_sorts wsX9_sorts) := goodIn_app (goodIn_of _ (by decide +kernel)) ggX9_comes_X9_sorts
theorem dX9_comes_0 : decode cX9_comes 0 = .ok (.aload_n 0, 1) := by decide +kernel
theorem dX9_comes_1 : decode cX9_comes 1 = .ok (.getfield 19, 3) := by decide +kernel
theorem dX9_comes_4 : decode cX9_comes 4 = .ok (.aload_n 0, 1) := by decide +kernel
theorem dX9_comes_5 : decode cX9_comes 5 = .ok (.getfield 94, 3) := by decide +kernel
theorem dX9_comes_8 : decode cX9_comes 8 = .ok (.iload_n 1, 1) := by decide +kernel
theorem dX9_comes_9 : decode cX9_comes 9 = .ok (.iastore, 1) := by decide +kernel
theorem dX9_comes_10 : decode cX9_comes 10 = .ok (.aload_n 0, 1) := by decide +kernel
theorem dX9_comes_11 : decode cX9_comes 11 = .ok (.dup, 1) := by decide +kernel
theorem dX9_comes_12 : decode cX9_comes 12 = .ok (.getfield 94, 3) := by decide +kernel
theorem dX9_comes_15 : decode cX9_comes 15 = .ok (.iconst 1, 1) := by decide +kernel
theorem dX9_comes_16 : decode cX9_comes 16 = .ok (.iadd, 1) := by decide +kernel
theorem dX9_comes_17 : decode cX9_comes 17 = .ok (.putfield 94, 3) := by decide +kernel
theorem dX9_comes_20 : decode cX9_comes 20 = .ok (.aload_n 0, 1) := by decide +kernel
theorem dX9_comes_21 : decode cX9_comes 21 = .ok (.getfield 19, 3) := by decide +kernel
theorem dX9_comes_24 : decode cX9_comes 24 = .ok (.aload_n 0, 1) := by decide +kernel
theorem dX9_comes_25 : decode cX9_comes 25 = .ok (.getfield 94, 3) := by decide +kernel
theorem dX9_comes_28 : decode cX9_comes 28 = .ok (.iconst 1, 1) := by decide +kernel
theorem dX9_comes_29 : decode cX9_comes 29 = .ok (.invokestatic 130, 3) := by decide +kernel
theorem dX9_comes_32 : decode cX9_comes 32 = .ok (.return_, 1) := by decide +kernel
set_option maxRecDepth 20000 in
theorem ggX9_split_X9_isSplit : GoodIn wsX9_split wsX9_isSplit := goodIn_r _ [6, 7, 8, 9, 5, 10, 11, 12, 13] (by decide +kernel) (by decide +kernel)
set_option maxRecDepth 20000 in
theorem gX9_split_X9_isSplit : GoodIn wsX9_split (va_wsS RX9 216 yX9_isSplit wsX9_isSplit) := goodIn_app (goodIn_of _ (by decide +kernel)) ggX9_split_X9_isSplit
set_option maxRecDepth 20000 in
theorem ggX9_split_X9_mayCome : GoodIn wsX9_split wsX9_mayCome := goodIn_r _ [17, 2, 18, 19, 20, 5, 21, 49, 50, 51, 52, 53, 54, 55, 56, 57, 58, 59, 60, 61, 62, 63, 64, 65, 66, 67, 68, 69, 70, 71, 72, 73, 74, 75, 76, 77, 78, 79, 80, 81, 82, 83, 84, 85, 86, 87, 88, 89, 90] (by decide +kernel) (by decide +kernel)
set_option maxRecDepth 20000 in
theorem gX9_split_X9_mayCome : GoodIn wsX9_split (wsV RX9 219 RX9 yX9_mayCome wsX9_mayCome) := goodIn_app (goodIn_of _ (by decide +kernel)) ggX9_split_X9_mayCome
set_option maxRecDepth 20000 in
theorem ggX9_split_X9_begins : GoodIn wsX9_split wsX9_begins := goodIn_r _ [25, 26, 27, 28, 29, 5, 30, 31, 32, 1, 2, 33, 18, 49, 50, 51, 52, 53, 54, 55, 56, 57, 58, 59, 60, 61, 62, 63, 64, 65, 66, 67, 68, 69, 70, 71, 72, 73, 74, 75, 76, 77, 78, 79, 80, 81, 82, 83, 84, 85, 86, 87, 88, 89, 90] (by decide +kernel) (by decide +kernel)
set_option maxRecDepth 20000 in
theorem gX9_split_X9_begins : GoodIn wsX9_split (wsV RX9 116 RX9 yX9_begins wsX9_begins) := goodIn_app (goodIn_of _ (by decide +kernel)) ggX9_split_X9_begins
set_option maxRecDepth 20000 in
theorem ggX9_split_X9_comes : GoodIn wsX9_split wsX9_comes := goodIn_r _ [37, 18, 2, 38, 39, 5, 40, 49, 50, 51, 52, 53, 54, 55, 56, 57, 58, 59, 60, 61, 62, 63, 64, 65, 66, 67, 68, 69, 70, 71, 72, 73, 74, 75, 76, 77, 78, 79, 80, 81, 82, 83, 84, 85, 86, 87, 88, 89, 90] (by decide +kernel) (by decide +kernel)
set_option maxRecDepth 20000 in
theorem gX9_split_X9_comes : GoodIn wsX9_split (wsV RX9 222 RX9 yX9_comes wsX9_comes) := goodIn_app (goodIn_of _ (by decide +kernel)) ggX9_split_X9_comes
set_option maxRecDepth 20000 in
theorem ggX9_split_X9_ends : GoodIn wsX9_split wsX9_ends := goodIn_r _ [44, 45, 26, 46, 47, 48, 27, 28, 29, 5, 30, 31, 32, 1, 2, 33, 18, 49, 50, 51, 52, 53, 54, 55, 56, 57, 58, 59, 60, 61, 62, 63, 64, 65, 66, 67, 68, 69, 70, 71, 72, 73, 74, 75, 76, 77, 78, 79, 80, 81, 82, 83, 84, 85, 86, 87, 88, 89, 90] (by decide +kernel) (by decide +kernel)
set_option maxRecDepth 20000 in
theorem gX9_split_X9_ends : GoodIn wsX9_split (wsV RX9 119 RX9 yX9_ends wsX9_ends) := goodIn_app (goodIn_of _ (by decide +kernel)) ggX9_split_X9_ends
theorem dX9_split_0 : decode cX9_split 0 = .ok (.iload_n 1, 1) := by decide +kernel
theorem dX9_split_1 : decode cX9_split 1 = .ok (.aload_n 0, 1) := by decide +kernel
theorem dX9_split_2 : decode cX9_split 2 = .ok (.getfield 15, 3) := by decide +kernel
theorem dX9_split_5 : decode cX9_split 5 = .ok (.invokestatic 216, 3) := by decide +kernel
theorem dX9_split_8 : decode cX9_split 8 = .ok (.ifCond .ne 5, 3) := by decide +kernel
theorem dX9_split_11 : decode cX9_split 11 = .ok (.iconst (-1), 1) := by decide +kernel
theorem dX9_split_12 : decode cX9_split 12 = .ok (.ireturn, 1) := by decide +kernel
theorem dX9_split_13 : decode cX9_split 13 = .ok (.aload_n 0, 1) := by decide +kernel
theorem dX9_split_14 : decode cX9_split 14 = .ok (.iload_n 1, 1) := by decide +kernel
theorem dX9_split_15 : decode cX9_split 15 = .ok (.invokevirtual 219, 3) := by decide +kernel
theorem dX9_split_18 : decode cX9_split 18 = .ok (.ifCond .ne 6, 3) := by decide +kernel
theorem dX9_split_21 : decode cX9_split 21 = .ok (.bipush (-5), 2) := by decide +kernel
theorem dX9_split_23 : decode cX9_split 23 = .ok (.ireturn, 1) := by decide +kernel
theorem dX9_split_24 : decode cX9_split 24 = .ok (.aload_n 0, 1) := by decide +kernel
theorem dX9_split_25 : decode cX9_split 25 = .ok (.invokevirtual 116, 3) := by decide +kernel
theorem dX9_split_28 : decode cX9_split 28 = .ok (.aload_n 0, 1) := by decide +kernel
theorem dX9_split_29 : decode cX9_split 29 = .ok (.iload_n 1, 1) := by decide +kernel
theorem dX9_split_30 : decode cX9_split 30 = .ok (.invokevirtual 222, 3) := by decide +kernel
theorem dX9_split_33 : decode cX9_split 33 = .ok (.aload_n 0, 1) := by decide +kernel
theorem dX9_split_34 : decode cX9_split 34 = .ok (.invokevirtual 119, 3) := by decide +kernel
theorem dX9_split_37 : decode cX9_split 37 = .ok (.aload_n 0, 1) := by decide +kernel
theorem dX9_split_38 : decode cX9_split 38 = .ok (.getfield 94, 3) := by decide +kernel
theorem dX9_split_41 : decode cX9_split 41 = .ok (.ireturn, 1) := by decide +kernel
set_option maxRecDepth 20000 in
theorem ggX9_join_X9_isSplit : GoodIn wsX9_join wsX9_isSplit := goodIn_r _ [7, 8, 9, 10, 6, 11, 12, 13, 14] (by decide +kernel) (by decide +kernel)
set_option maxRecDepth 20000 in
theorem gX9_join_X9_isSplit : GoodIn wsX9_join (va_wsS RX9 216 yX9_isSplit wsX9_isSplit) := goodIn_app (goodIn_of _ (by decide +kernel)) ggX9_join_X9_isSplit
set_option maxRecDepth 20000 in
theorem ggX9_join_X9_placeOf : GoodIn wsX9_join wsX9_placeOf := goodIn_r _ [18, 2, 3, 39, 40, 41, 42, 43, 44, 45, 46, 47, 48, 49, 50, 51, 52, 53, 54, 55, 56, 57, 58, 59, 60, 61, 62, 63, 64, 65, 66, 67, 68, 69, 70, 71, 72, 73, 74, 75, 76, 77, 78, 79, 80] (by decide +kernel) (by decide +kernel)
set_option maxRecDepth 20000 in
theorem gX9_join_X9_placeOf : GoodIn wsX9_join (wsV RX9 226 RX9 yX9_placeOf wsX9_placeOf) := goodIn_app (goodIn_of _ (by decide +kernel)) ggX9_join_X9_placeOf
set_option maxRecDepth 20000 in
theorem ggX9_join_X9_begins : GoodIn wsX9_join wsX9_begins := goodIn_r _ [22, 23, 24, 25, 26, 6, 27, 28, 29, 1, 2, 30, 3, 39, 40, 41, 42, 43, 44, 45, 46, 47, 48, 49, 50, 51, 52, 53, 54, 55, 56, 57, 58, 59, 60, 61, 62, 63, 64, 65, 66, 67, 68, 69, 70, 71, 72, 73, 74, 75, 76, 77, 78, 79, 80] (by decide +kernel) (by decide +kernel)
set_option maxRecDepth 20000 in
theorem gX9_join_X9_begins : GoodIn wsX9_join (wsV RX9 116 RX9 yX9_begins wsX9_begins) := goodIn_app (goodIn_of _ (by decide +kernel)) ggX9_join_X9_begins
set_option maxRecDepth 20000 in
theorem ggX9_join_X9_ends : GoodIn wsX9_join wsX9_ends := goodIn_r _ [34, 35, 23, 36, 37, 38, 24, 25, 26, 6, 27, 28, 29, 1, 2, 30, 3, 39, 40, 41, 42, 43, 44, 45, 46, 47, 48, 49, 50, 51, 52, 53, 54, 55, 56, 57, 58, 59, 60, 61, 62, 63, 64, 65, 66, 67, 68, 69, 70, 71, 72, 73, 74, 75, 76, 77, 78, 79, 80] (by decide +kernel) (by decide +kernel)
set_option maxRecDepth 20000 in
theorem gX9_join_X9_ends : GoodIn wsX9_join (wsV RX9 119 RX9 yX9_ends wsX9_ends) := goodIn_app (goodIn_of _ (by decide +kernel)) ggX9_join_X9_ends
theorem dX9_join_0 : decode cX9_join 0 = .ok (.iload_n 1, 1) := by decide +kernel
theorem dX9_join_1 : decode cX9_join 1 = .ok (.aload_n 0, 1) := by decide +kernel
theorem dX9_join_2 : decode cX9_join 2 = .ok (.getfield 15, 3) := by decide +kernel
theorem dX9_join_5 : decode cX9_join 5 = .ok (.invokestatic 216, 3) := by decide +kernel
theorem dX9_join_8 : decode cX9_join 8 = .ok (.ifCond .ne 5, 3) := by decide +kernel
theorem dX9_join_11 : decode cX9_join 11 = .ok (.iconst (-1), 1) := by decide +kernel
theorem dX9_join_12 : decode cX9_join 12 = .ok (.ireturn, 1) := by decide +kernel
theorem dX9_join_13 : decode cX9_join 13 = .ok (.aload_n 0, 1) := by decide +kernel
theorem dX9_join_14 : decode cX9_join 14 = .ok (.iload_n 1, 1) := by decide +kernel
theorem dX9_join_15 : decode cX9_join 15 = .ok (.invokevirtual 226, 3) := by decide +kernel
theorem dX9_join_18 : decode cX9_join 18 = .ok (.istore_n 2, 1) := by decide +kernel
theorem dX9_join_19 : decode cX9_join 19 = .ok (.iload_n 2, 1) := by decide +kernel
theorem dX9_join_20 : decode cX9_join 20 = .ok (.ifCond .ge 6, 3) := by decide +kernel
theorem dX9_join_23 : decode cX9_join 23 = .ok (.bipush (-5), 2) := by decide +kernel
theorem dX9_join_25 : decode cX9_join 25 = .ok (.ireturn, 1) := by decide +kernel
theorem dX9_join_26 : decode cX9_join 26 = .ok (.aload_n 0, 1) := by decide +kernel
theorem dX9_join_27 : decode cX9_join 27 = .ok (.invokevirtual 116, 3) := by decide +kernel
theorem dX9_join_30 : decode cX9_join 30 = .ok (.aload_n 0, 1) := by decide +kernel
theorem dX9_join_31 : decode cX9_join 31 = .ok (.dup, 1) := by decide +kernel
theorem dX9_join_32 : decode cX9_join 32 = .ok (.getfield 94, 3) := by decide +kernel
theorem dX9_join_35 : decode cX9_join 35 = .ok (.iconst 1, 1) := by decide +kernel
theorem dX9_join_36 : decode cX9_join 36 = .ok (.isub, 1) := by decide +kernel
theorem dX9_join_37 : decode cX9_join 37 = .ok (.putfield 94, 3) := by decide +kernel
theorem dX9_join_40 : decode cX9_join 40 = .ok (.iload_n 2, 1) := by decide +kernel
theorem dX9_join_41 : decode cX9_join 41 = .ok (.istore_n 3, 1) := by decide +kernel
theorem dX9_join_42 : decode cX9_join 42 = .ok (.iload_n 3, 1) := by decide +kernel
theorem dX9_join_43 : decode cX9_join 43 = .ok (.aload_n 0, 1) := by decide +kernel
theorem dX9_join_44 : decode cX9_join 44 = .ok (.getfield 94, 3) := by decide +kernel
theorem dX9_join_47 : decode cX9_join 47 = .ok (.if_icmp .ge 23, 3) := by decide +kernel
theorem dX9_join_50 : decode cX9_join 50 = .ok (.aload_n 0, 1) := by decide +kernel
theorem dX9_join_51 : decode cX9_join 51 = .ok (.getfield 19, 3) := by decide +kernel
theorem dX9_join_54 : decode cX9_join 54 = .ok (.iload_n 3, 1) := by decide +kernel
theorem dX9_join_55 : decode cX9_join 55 = .ok (.aload_n 0, 1) := by decide +kernel
theorem dX9_join_56 : decode cX9_join 56 = .ok (.getfield 19, 3) := by decide +kernel
theorem dX9_join_59 : decode cX9_join 59 = .ok (.iload_n 3, 1) := by decide +kernel
theorem dX9_join_60 : decode cX9_join 60 = .ok (.iconst 1, 1) := by decide +kernel
theorem dX9_join_61 : decode cX9_join 61 = .ok (.iadd, 1) := by decide +kernel
theorem dX9_join_62 : decode cX9_join 62 = .ok (.iaload, 1) := by decide +kernel
theorem dX9_join_63 : decode cX9_join 63 = .ok (.iastore, 1) := by decide +kernel
theorem dX9_join_64 : decode cX9_join 64 = .ok (.iinc 3 1, 3) := by decide +kernel
theorem dX9_join_67 : decode cX9_join 67 = .ok (.goto (-25), 3) := by decide +kernel
theorem dX9_join_70 : decode cX9_join 70 = .ok (.aload_n 0, 1) := by decide +kernel
theorem dX9_join_71 : decode cX9_join 71 = .ok (.invokevirtual 119, 3) := by decide +kernel
theorem dX9_join_74 : decode cX9_join 74 = .ok (.aload_n 0, 1) := by decide +kernel
theorem dX9_join_75 : decode cX9_join 75 = .ok (.getfield 94, 3) := by decide +kernel
theorem dX9_join_78 : decode cX9_join 78 = .ok (.ireturn, 1) := by decide +kernel
theorem dX9_splitAt_0 : decode cX9_splitAt 0 = .ok (.iload_n 1, 1) := by decide +kernel
theorem dX9_splitAt_1 : decode cX9_splitAt 1 = .ok (.ifCond .ge 7, 3) := by decide +kernel
theorem dX9_splitAt_4 : decode cX9_splitAt 4 = .ok (.iconst (-1), 1) := by decide +kernel
theorem dX9_splitAt_5 : decode cX9_splitAt 5 = .ok (.goto 22, 3) := by decide +kernel
theorem dX9_splitAt_8 : decode cX9_splitAt 8 = .ok (.iload_n 1, 1) := by decide +kernel
theorem dX9_splitAt_9 : decode cX9_splitAt 9 = .ok (.aload_n 0, 1) := by decide +kernel
theorem dX9_splitAt_10 : decode cX9_splitAt 10 = .ok (.getfield 94, 3) := by decide +kernel
theorem dX9_splitAt_13 : decode cX9_splitAt 13 = .ok (.if_icmp .ge 12, 3) := by decide +kernel
theorem dX9_splitAt_16 : decode cX9_splitAt 16 = .ok (.aload_n 0, 1) := by decide +kernel
theorem dX9_splitAt_17 : decode cX9_splitAt 17 = .ok (.getfield 19, 3) := by decide +kernel
theorem dX9_splitAt_20 : decode cX9_splitAt 20 = .ok (.iload_n 1, 1) := by decide +kernel
theorem dX9_splitAt_21 : decode cX9_splitAt 21 = .ok (.iaload, 1) := by decide +kernel
theorem dX9_splitAt_22 : decode cX9_splitAt 22 = .ok (.goto 5, 3) := by decide +kernel
theorem dX9_splitAt_25 : decode cX9_splitAt 25 = .ok (.bipush (-2), 2) := by decide +kernel
theorem dX9_splitAt_27 : decode cX9_splitAt 27 = .ok (.ireturn, 1) := by decide +kernel
set_option maxRecDepth 20000 in
theorem ggX9_may_X9_isSplit : GoodIn wsX9_may wsX9_isSplit := goodIn_r _ [5, 6, 7, 8, 4, 9, 10, 11, 12] (by decide +kernel) (by decide +kernel)
set_option maxRecDepth 20000 in
theorem gX9_may_X9_isSplit : GoodIn wsX9_may (va_wsS RX9 216 yX9_isSplit wsX9_isSplit) := goodIn_app (goodIn_of _ (by decide +kernel)) ggX9_may_X9_isSplit
set_option maxRecDepth 20000 in
theorem ggX9_may_X9_mayCome : GoodIn wsX9_may wsX9_mayCome := goodIn_r _ [16, 17, 18, 19, 20, 4, 21, 22, 23, 24, 25, 26, 27, 28, 29, 30, 31, 32, 33, 34, 35, 36, 37, 38, 39, 40, 41, 42, 43, 44, 45, 46, 47, 48, 49, 50, 51, 52, 53, 54, 55, 56, 57, 58, 59, 60, 61, 62, 63] (by decide +kernel) (by decide +kernel)
set_option maxRecDepth 20000 in
theorem gX9_may_X9_mayCome : GoodIn wsX9_may (wsV RX9 219 RX9 yX9_mayCome wsX9_mayCome) := goodIn_app (goodIn_of _ (by decide +kernel)) ggX9_may_X9_mayCome
theorem dX9_may_0 : decode cX9_may 0 = .ok (.iload_n 1, 1) := by decide +kernel
theorem dX9_may_1 : decode cX9_may 1 = .ok (.aload_n 0, 1) := by decide +kernel
theorem dX9_may_2 : decode cX9_may 2 = .ok (.getfield 15, 3) := by decide +kernel
theorem dX9_may_5 : decode cX9_may 5 = .ok (.invokestatic 216, 3) := by decide +kernel
theorem dX9_may_8 : decode cX9_may 8 = .ok (.ifCond .eq 19, 3) := by decide +kernel
theorem dX9_may_11 : decode cX9_may 11 = .ok (.aload_n 0, 1) := by decide +kernel
theorem dX9_may_12 : decode cX9_may 12 = .ok (.iload_n 1, 1) := by decide +kernel
theorem dX9_may_13 : decode cX9_may 13 = .ok (.invokevirtual 219, 3) := by decide +kernel
theorem dX9_may_16 : decode cX9_may 16 = .ok (.ifCond .eq 7, 3) := by decide +kernel
theorem dX9_may_19 : decode cX9_may 19 = .ok (.iconst 1, 1) := by decide +kernel
theorem dX9_may_20 : decode cX9_may 20 = .ok (.goto 8, 3) := by decide +kernel
theorem dX9_may_23 : decode cX9_may 23 = .ok (.iconst 0, 1) := by decide +kernel
theorem dX9_may_24 : decode cX9_may 24 = .ok (.goto 4, 3) := by decide +kernel
theorem dX9_may_27 : decode cX9_may 27 = .ok (.iconst (-1), 1) := by decide +kernel
theorem dX9_may_28 : decode cX9_may 28 = .ok (.ireturn, 1) := by decide +kernel
theorem dX9_isWithin_0 : decode cX9_isWithin 0 = .ok (.iload_n 1, 1) := by decide +kernel
theorem dX9_isWithin_1 : decode cX9_isWithin 1 = .ok (.iload_n 2, 1) := by decide +kernel
theorem dX9_isWithin_2 : decode cX9_isWithin 2 = .ok (.if_icmp .eq 14, 3) := by decide +kernel
theorem dX9_isWithin_5 : decode cX9_isWithin 5 = .ok (.iload_n 1, 1) := by decide +kernel
theorem dX9_isWithin_6 : decode cX9_isWithin 6 = .ok (.iload_n 2, 1) := by decide +kernel
theorem dX9_isWithin_7 : decode cX9_isWithin 7 = .ok (.iand, 1) := by decide +kernel
theorem dX9_isWithin_8 : decode cX9_isWithin 8 = .ok (.iload_n 1, 1) := by decide +kernel
theorem dX9_isWithin_9 : decode cX9_isWithin 9 = .ok (.if_icmp .ne 7, 3) := by decide +kernel
theorem dX9_isWithin_12 : decode cX9_isWithin 12 = .ok (.iconst 1, 1) := by decide +kernel
theorem dX9_isWithin_13 : decode cX9_isWithin 13 = .ok (.goto 4, 3) := by decide +kernel
theorem dX9_isWithin_16 : decode cX9_isWithin 16 = .ok (.iconst 0, 1) := by decide +kernel
theorem dX9_isWithin_17 : decode cX9_isWithin 17 = .ok (.ireturn, 1) := by decide +kernel
set_option maxRecDepth 20000 in
theorem ggX9_isBelow_X9_isWithin : GoodIn wsX9_isBelow wsX9_isWithin := goodIn_r _ [7] (by decide +kernel) (by decide +kernel)
set_option maxRecDepth 20000 in
theorem gX9_isBelow_X9_isWithin : GoodIn wsX9_isBelow (wsV RX9 229 RX9 yX9_isWithin wsX9_isWithin) := goodIn_app (goodIn_of _ (by decide +kernel)) ggX9_isBelow_X9_isWithin
theorem dX9_isBelow_0 : decode cX9_isBelow 0 = .ok (.iload_n 2, 1) := by decide +kernel
theorem dX9_isBelow_1 : decode cX9_isBelow 1 = .ok (.ifCond .eq 19, 3) := by decide +kernel
theorem dX9_isBelow_4 : decode cX9_isBelow 4 = .ok (.aload_n 0, 1) := by decide +kernel
theorem dX9_isBelow_5 : decode cX9_isBelow 5 = .ok (.aload_n 0, 1) := by decide +kernel
theorem dX9_isBelow_6 : decode cX9_isBelow 6 = .ok (.getfield 19, 3) := by decide +kernel
theorem dX9_isBelow_9 : decode cX9_isBelow 9 = .ok (.iload_n 1, 1) := by decide +kernel
theorem dX9_isBelow_10 : decode cX9_isBelow 10 = .ok (.iaload, 1) := by decide +kernel
theorem dX9_isBelow_11 : decode cX9_isBelow 11 = .ok (.iload_n 2, 1) := by decide +kernel
theorem dX9_isBelow_12 : decode cX9_isBelow 12 = .ok (.invokevirtual 229, 3) := by decide +kernel
theorem dX9_isBelow_15 : decode cX9_isBelow 15 = .ok (.ifCond .ne 5, 3) := by decide +kernel
theorem dX9_isBelow_18 : decode cX9_isBelow 18 = .ok (.iconst 0, 1) := by decide +kernel
theorem dX9_isBelow_19 : decode cX9_isBelow 19 = .ok (.ireturn, 1) := by decide +kernel
theorem dX9_isBelow_20 : decode cX9_isBelow 20 = .ok (.iconst 0, 1) := by decide +kernel
theorem dX9_isBelow_21 : decode cX9_isBelow 21 = .ok (.istore_n 3, 1) := by decide +kernel
theorem dX9_isBelow_22 : decode cX9_isBelow 22 = .ok (.iload_n 3, 1) := by decide +kernel
theorem dX9_isBelow_23 : decode cX9_isBelow 23 = .ok (.aload_n 0, 1) := by decide +kernel
theorem dX9_isBelow_24 : decode cX9_isBelow 24 = .ok (.getfield 94, 3) := by decide +kernel
theorem dX9_isBelow_27 : decode cX9_isBelow 27 = .ok (.if_icmp .ge 48, 3) := by decide +kernel
theorem dX9_isBelow_30 : decode cX9_isBelow 30 = .ok (.aload_n 0, 1) := by decide +kernel
theorem dX9_isBelow_31 : decode cX9_isBelow 31 = .ok (.aload_n 0, 1) := by decide +kernel
theorem dX9_isBelow_32 : decode cX9_isBelow 32 = .ok (.getfield 19, 3) := by decide +kernel
theorem dX9_isBelow_35 : decode cX9_isBelow 35 = .ok (.iload_n 1, 1) := by decide +kernel
theorem dX9_isBelow_36 : decode cX9_isBelow 36 = .ok (.iaload, 1) := by decide +kernel
theorem dX9_isBelow_37 : decode cX9_isBelow 37 = .ok (.aload_n 0, 1) := by decide +kernel
theorem dX9_isBelow_38 : decode cX9_isBelow 38 = .ok (.getfield 19, 3) := by decide +kernel
theorem dX9_isBelow_41 : decode cX9_isBelow 41 = .ok (.iload_n 3, 1) := by decide +kernel
theorem dX9_isBelow_42 : decode cX9_isBelow 42 = .ok (.iaload, 1) := by decide +kernel
theorem dX9_isBelow_43 : decode cX9_isBelow 43 = .ok (.invokevirtual 229, 3) := by decide +kernel
theorem dX9_isBelow_46 : decode cX9_isBelow 46 = .ok (.ifCond .eq 23, 3) := by decide +kernel
theorem dX9_isBelow_49 : decode cX9_isBelow 49 = .ok (.iload_n 2, 1) := by decide +kernel
theorem dX9_isBelow_50 : decode cX9_isBelow 50 = .ok (.ifCond .eq 17, 3) := by decide +kernel
theorem dX9_isBelow_53 : decode cX9_isBelow 53 = .ok (.aload_n 0, 1) := by decide +kernel
theorem dX9_isBelow_54 : decode cX9_isBelow 54 = .ok (.aload_n 0, 1) := by decide +kernel
theorem dX9_isBelow_55 : decode cX9_isBelow 55 = .ok (.getfield 19, 3) := by decide +kernel
theorem dX9_isBelow_58 : decode cX9_isBelow 58 = .ok (.iload_n 3, 1) := by decide +kernel
theorem dX9_isBelow_59 : decode cX9_isBelow 59 = .ok (.iaload, 1) := by decide +kernel
theorem dX9_isBelow_60 : decode cX9_isBelow 60 = .ok (.iload_n 2, 1) := by decide +kernel
theorem dX9_isBelow_61 : decode cX9_isBelow 61 = .ok (.invokevirtual 229, 3) := by decide +kernel
theorem dX9_isBelow_64 : decode cX9_isBelow 64 = .ok (.ifCond .eq 5, 3) := by decide +kernel
theorem dX9_isBelow_67 : decode cX9_isBelow 67 = .ok (.iconst 0, 1) := by decide +kernel
theorem dX9_isBelow_68 : decode cX9_isBelow 68 = .ok (.ireturn, 1) := by decide +kernel
theorem dX9_isBelow_69 : decode cX9_isBelow 69 = .ok (.iinc 3 1, 3) := by decide +kernel
theorem dX9_isBelow_72 : decode cX9_isBelow 72 = .ok (.goto (-50), 3) := by decide +kernel
theorem dX9_isBelow_75 : decode cX9_isBelow 75 = .ok (.iconst 1, 1) := by decide +kernel
theorem dX9_isBelow_76 : decode cX9_isBelow 76 = .ok (.ireturn, 1) := by decide +kernel
set_option maxRecDepth 20000 in
theorem ggX9_edges_X9_isBelow : GoodIn wsX9_edges wsX9_isBelow := goodIn_r _ [6, 7, 1, 8, 9, 10, 5, 11, 12, 13, 14, 15, 16, 17, 18, 19, 20, 21, 22, 23, 24, 25, 26, 27, 28, 29, 30, 31, 32, 33, 34, 35, 36, 37, 38, 39, 40, 41, 42, 43, 44, 45, 46, 47, 48, 49, 50, 51, 52, 53] (by decide +kernel) (by decide +kernel)
set_option maxRecDepth 20000 in
theorem gX9_edges_X9_isBelow : GoodIn wsX9_edges (wsV RX9 232 RX9 yX9_isBelow wsX9_isBelow) := goodIn_app (goodIn_of _ (by decide +kernel)) ggX9_edges_X9_isBelow
theorem dX9_edges_0 : decode cX9_edges 0 = .ok (.iload_n 1, 1) := by decide +kernel
theorem dX9_edges_1 : decode cX9_edges 1 = .ok (.ifCond .ne 7, 3) := by decide +kernel
theorem dX9_edges_4 : decode cX9_edges 4 = .ok (.iconst 0, 1) := by decide +kernel
theorem dX9_edges_5 : decode cX9_edges 5 = .ok (.goto 4, 3) := by decide +kernel
theorem dX9_edges_8 : decode cX9_edges 8 = .ok (.iconst 1, 1) := by decide +kernel
theorem dX9_edges_9 : decode cX9_edges 9 = .ok (.istore_n 2, 1) := by decide +kernel
theorem dX9_edges_10 : decode cX9_edges 10 = .ok (.iconst 0, 1) := by decide +kernel
theorem dX9_edges_11 : decode cX9_edges 11 = .ok (.istore_n 3, 1) := by decide +kernel
theorem dX9_edges_12 : decode cX9_edges 12 = .ok (.iload_n 3, 1) := by decide +kernel
theorem dX9_edges_13 : decode cX9_edges 13 = .ok (.aload_n 0, 1) := by decide +kernel
theorem dX9_edges_14 : decode cX9_edges 14 = .ok (.getfield 94, 3) := by decide +kernel
theorem dX9_edges_17 : decode cX9_edges 17 = .ok (.if_icmp .ge 18, 3) := by decide +kernel
theorem dX9_edges_20 : decode cX9_edges 20 = .ok (.iload_n 2, 1) := by decide +kernel
theorem dX9_edges_21 : decode cX9_edges 21 = .ok (.aload_n 0, 1) := by decide +kernel
theorem dX9_edges_22 : decode cX9_edges 22 = .ok (.iload_n 3, 1) := by decide +kernel
theorem dX9_edges_23 : decode cX9_edges 23 = .ok (.iload_n 1, 1) := by decide +kernel
theorem dX9_edges_24 : decode cX9_edges 24 = .ok (.invokevirtual 232, 3) := by decide +kernel
theorem dX9_edges_27 : decode cX9_edges 27 = .ok (.iadd, 1) := by decide +kernel
theorem dX9_edges_28 : decode cX9_edges 28 = .ok (.istore_n 2, 1) := by decide +kernel
theorem dX9_edges_29 : decode cX9_edges 29 = .ok (.iinc 3 1, 3) := by decide +kernel
theorem dX9_edges_32 : decode cX9_edges 32 = .ok (.goto (-20), 3) := by decide +kernel
theorem dX9_edges_35 : decode cX9_edges 35 = .ok (.iload_n 2, 1) := by decide +kernel
theorem dX9_edges_36 : decode cX9_edges 36 = .ok (.ireturn, 1) := by decide +kernel
set_option maxRecDepth 20000 in
theorem ggX9_at_X9_isBelow : GoodIn wsX9_at wsX9_isBelow := goodIn_r _ [8, 3, 2, 9, 10, 11, 7, 12, 13, 14, 15, 16, 17, 18, 19, 20, 21, 22, 23, 24, 25, 26, 27, 28, 29, 30, 31, 32, 33, 34, 35, 36, 37, 38, 39, 40, 41, 42, 43, 44, 45, 46, 47, 48, 49, 50, 51, 52, 53, 54] (by decide +kernel) (by decide +kernel)
set_option maxRecDepth 20000 in
theorem gX9_at_X9_isBelow : GoodIn wsX9_at (wsV RX9 232 RX9 yX9_isBelow wsX9_isBelow) := goodIn_app (goodIn_of _ (by decide +kernel)) ggX9_at_X9_isBelow
theorem dX9_at_0 : decode cX9_at 0 = .ok (.iload_n 1, 1) := by decide +kernel
theorem dX9_at_1 : decode cX9_at 1 = .ok (.ifCond .ne 14, 3) := by decide +kernel
theorem dX9_at_4 : decode cX9_at 4 = .ok (.iconst 1, 1) := by decide +kernel
theorem dX9_at_5 : decode cX9_at 5 = .ok (.aload_n 0, 1) := by decide +kernel
theorem dX9_at_6 : decode cX9_at 6 = .ok (.getfield 15, 3) := by decide +kernel
theorem dX9_at_9 : decode cX9_at 9 = .ok (.ishl, 1) := by decide +kernel
theorem dX9_at_10 : decode cX9_at 10 = .ok (.iconst 1, 1) := by decide +kernel
theorem dX9_at_11 : decode cX9_at 11 = .ok (.isub, 1) := by decide +kernel
theorem dX9_at_12 : decode cX9_at 12 = .ok (.goto 4, 3) := by decide +kernel
theorem dX9_at_15 : decode cX9_at 15 = .ok (.iload_n 1, 1) := by decide +kernel
theorem dX9_at_16 : decode cX9_at 16 = .ok (.istore_n 2, 1) := by decide +kernel
theorem dX9_at_17 : decode cX9_at 17 = .ok (.iconst 0, 1) := by decide +kernel
theorem dX9_at_18 : decode cX9_at 18 = .ok (.istore_n 3, 1) := by decide +kernel
theorem dX9_at_19 : decode cX9_at 19 = .ok (.iload_n 3, 1) := by decide +kernel
theorem dX9_at_20 : decode cX9_at 20 = .ok (.aload_n 0, 1) := by decide +kernel
theorem dX9_at_21 : decode cX9_at 21 = .ok (.getfield 94, 3) := by decide +kernel
theorem dX9_at_24 : decode cX9_at 24 = .ok (.if_icmp .ge 34, 3) := by decide +kernel
theorem dX9_at_27 : decode cX9_at 27 = .ok (.iload_n 2, 1) := by decide +kernel
theorem dX9_at_28 : decode cX9_at 28 = .ok (.aload_n 0, 1) := by decide +kernel
theorem dX9_at_29 : decode cX9_at 29 = .ok (.iload_n 3, 1) := by decide +kernel
theorem dX9_at_30 : decode cX9_at 30 = .ok (.iload_n 1, 1) := by decide +kernel
theorem dX9_at_31 : decode cX9_at 31 = .ok (.invokevirtual 232, 3) := by decide +kernel
theorem dX9_at_34 : decode cX9_at 34 = .ok (.iconst 1, 1) := by decide +kernel
theorem dX9_at_35 : decode cX9_at 35 = .ok (.if_icmp .ne 14, 3) := by decide +kernel
theorem dX9_at_38 : decode cX9_at 38 = .ok (.aload_n 0, 1) := by decide +kernel
theorem dX9_at_39 : decode cX9_at 39 = .ok (.getfield 19, 3) := by decide +kernel
theorem dX9_at_42 : decode cX9_at 42 = .ok (.iload_n 3, 1) := by decide +kernel
theorem dX9_at_43 : decode cX9_at 43 = .ok (.iaload, 1) := by decide +kernel
theorem dX9_at_44 : decode cX9_at 44 = .ok (.iconst (-1), 1) := by decide +kernel
theorem dX9_at_45 : decode cX9_at 45 = .ok (.ixor, 1) := by decide +kernel
theorem dX9_at_46 : decode cX9_at 46 = .ok (.goto 4, 3) := by decide +kernel
theorem dX9_at_49 : decode cX9_at 49 = .ok (.iconst (-1), 1) := by decide +kernel
theorem dX9_at_50 : decode cX9_at 50 = .ok (.iand, 1) := by decide +kernel
theorem dX9_at_51 : decode cX9_at 51 = .ok (.istore_n 2, 1) := by decide +kernel
theorem dX9_at_52 : decode cX9_at 52 = .ok (.iinc 3 1, 3) := by decide +kernel
theorem dX9_at_55 : decode cX9_at 55 = .ok (.goto (-36), 3) := by decide +kernel
theorem dX9_at_58 : decode cX9_at 58 = .ok (.iload_n 2, 1) := by decide +kernel
theorem dX9_at_59 : decode cX9_at 59 = .ok (.ireturn, 1) := by decide +kernel
set_option maxRecDepth 20000 in
theorem ggX9_valence_X9_isSplit : GoodIn wsX9_valence wsX9_isSplit := goodIn_r _ [5, 6, 7, 8, 4, 9, 10, 11, 12] (by decide +kernel) (by decide +kernel)
set_option maxRecDepth 20000 in
theorem gX9_valence_X9_isSplit : GoodIn wsX9_valence (va_wsS RX9 216 yX9_isSplit wsX9_isSplit) := goodIn_app (goodIn_of _ (by decide +kernel)) ggX9_valence_X9_isSplit
set_option maxRecDepth 20000 in
theorem ggX9_valence_X9_placeOf : GoodIn wsX9_valence wsX9_placeOf := goodIn_r _ [16, 17, 18, 35, 36, 37, 38, 39, 40, 41, 42, 43, 44, 45, 46, 47, 48, 49, 50, 51, 52, 53, 54, 55, 56, 57, 58, 59, 60, 61, 62, 63, 64, 65, 66, 67, 68, 69, 70, 71, 72, 73, 74, 75, 76] (by decide +kernel) (by decide +kernel)
set_option maxRecDepth 20000 in
theorem gX9_valence_X9_placeOf : GoodIn wsX9_valence (wsV RX9 226 RX9 yX9_placeOf wsX9_placeOf) := goodIn_app (goodIn_of _ (by decide +kernel)) ggX9_valence_X9_placeOf
set_option maxRecDepth 20000 in
theorem ggX9_valence_X9_at : GoodIn wsX9_valence wsX9_at := goodIn_r _ [22, 1, 17, 18, 23, 24, 25, 4, 26, 27, 28, 29, 30, 35, 36, 37, 38, 39, 40, 41, 42, 43, 44, 45, 46, 47, 48, 49, 50, 51, 52, 53, 54, 55, 56, 57, 58, 59, 60, 61, 62, 63, 64, 65, 66, 67, 68, 69, 70, 71, 72, 73, 74, 75, 76] (by decide +kernel) (by decide +kernel)
set_option maxRecDepth 20000 in
theorem gX9_valence_X9_at : GoodIn wsX9_valence (wsV RX9 236 RX9 yX9_at wsX9_at) := goodIn_app (goodIn_of _ (by decide +kernel)) ggX9_valence_X9_at
set_option maxRecDepth 20000 in
theorem ggX9_valence_X9_bits : GoodIn wsX9_valence wsX9_bits := goodIn_r _ [12] (by decide +kernel) (by decide +kernel)
set_option maxRecDepth 20000 in
theorem gX9_valence_X9_bits : GoodIn wsX9_valence (va_wsS RX9 206 yX9_bits wsX9_bits) := goodIn_app (goodIn_of _ (by decide +kernel)) ggX9_valence_X9_bits
set_option maxRecDepth 20000 in
theorem ggX9_valence_X9_edges : GoodIn wsX9_valence wsX9_edges := goodIn_r _ [34, 17, 23, 24, 25, 4, 26, 18, 27, 28, 29, 30, 35, 36, 37, 38, 39, 40, 41, 42, 43, 44, 45, 46, 47, 48, 49, 50, 51, 52, 53, 54, 55, 56, 57, 58, 59, 60, 61, 62, 63, 64, 65, 66, 67, 68, 69, 70, 71, 72, 73, 74, 75, 76] (by decide +kernel) (by decide +kernel)
set_option maxRecDepth 20000 in
theorem gX9_valence_X9_edges : GoodIn wsX9_valence (wsV RX9 239 RX9 yX9_edges wsX9_edges) := goodIn_app (goodIn_of _ (by decide +kernel)) ggX9_valence_X9_edges
theorem dX9_valence_0 : decode cX9_valence 0 = .ok (.iload_n 1, 1) := by decide +kernel
theorem dX9_valence_1 : decode cX9_valence 1 = .ok (.ifCond .eq 16, 3) := by decide +kernel
theorem dX9_valence_4 : decode cX9_valence 4 = .ok (.iload_n 1, 1) := by decide +kernel
theorem dX9_valence_5 : decode cX9_valence 5 = .ok (.aload_n 0, 1) := by decide +kernel
theorem dX9_valence_6 : decode cX9_valence 6 = .ok (.getfield 15, 3) := by decide +kernel
theorem dX9_valence_9 : decode cX9_valence 9 = .ok (.invokestatic 216, 3) := by decide +kernel
theorem dX9_valence_12 : decode cX9_valence 12 = .ok (.ifCond .ne 5, 3) := by decide +kernel
theorem dX9_valence_15 : decode cX9_valence 15 = .ok (.iconst (-1), 1) := by decide +kernel
theorem dX9_valence_16 : decode cX9_valence 16 = .ok (.ireturn, 1) := by decide +kernel
theorem dX9_valence_17 : decode cX9_valence 17 = .ok (.iload_n 1, 1) := by decide +kernel
theorem dX9_valence_18 : decode cX9_valence 18 = .ok (.ifCond .eq 14, 3) := by decide +kernel
theorem dX9_valence_21 : decode cX9_valence 21 = .ok (.aload_n 0, 1) := by decide +kernel
theorem dX9_valence_22 : decode cX9_valence 22 = .ok (.iload_n 1, 1) := by decide +kernel
theorem dX9_valence_23 : decode cX9_valence 23 = .ok (.invokevirtual 226, 3) := by decide +kernel
theorem dX9_valence_26 : decode cX9_valence 26 = .ok (.ifCond .ge 6, 3) := by decide +kernel
theorem dX9_valence_29 : decode cX9_valence 29 = .ok (.bipush (-5), 2) := by decide +kernel
theorem dX9_valence_31 : decode cX9_valence 31 = .ok (.ireturn, 1) := by decide +kernel
theorem dX9_valence_32 : decode cX9_valence 32 = .ok (.aload_n 0, 1) := by decide +kernel
theorem dX9_valence_33 : decode cX9_valence 33 = .ok (.iload_n 1, 1) := by decide +kernel
theorem dX9_valence_34 : decode cX9_valence 34 = .ok (.invokevirtual 236, 3) := by decide +kernel
theorem dX9_valence_37 : decode cX9_valence 37 = .ok (.invokestatic 206, 3) := by decide +kernel
theorem dX9_valence_40 : decode cX9_valence 40 = .ok (.aload_n 0, 1) := by decide +kernel
theorem dX9_valence_41 : decode cX9_valence 41 = .ok (.iload_n 1, 1) := by decide +kernel
theorem dX9_valence_42 : decode cX9_valence 42 = .ok (.invokevirtual 239, 3) := by decide +kernel
theorem dX9_valence_45 : decode cX9_valence 45 = .ok (.iadd, 1) := by decide +kernel
theorem dX9_valence_46 : decode cX9_valence 46 = .ok (.ireturn, 1) := by decide +kernel
set_option maxRecDepth 20000 in
theorem ggX9_finds_X9_isSplit : GoodIn wsX9_finds wsX9_isSplit := goodIn_r _ [6, 7, 8, 9, 5, 10, 11, 12, 13] (by decide +kernel) (by decide +kernel)
set_option maxRecDepth 20000 in
theorem gX9_finds_X9_isSplit : GoodIn wsX9_finds (va_wsS RX9 216 yX9_isSplit wsX9_isSplit) := goodIn_app (goodIn_of _ (by decide +kernel)) ggX9_finds_X9_isSplit
set_option maxRecDepth 20000 in
theorem ggX9_finds_X9_goTogether : GoodIn wsX9_finds wsX9_goTogether := goodIn_r _ [16] (by decide +kernel) (by decide +kernel)
set_option maxRecDepth 20000 in
theorem gX9_finds_X9_goTogether : GoodIn wsX9_finds (va_wsS RX9 210 yX9_goTogether wsX9_goTogether) := goodIn_app (goodIn_of _ (by decide +kernel)) ggX9_finds_X9_goTogether
set_option maxRecDepth 20000 in
theorem ggX9_finds_X9_finds : GoodIn wsX9_finds wsX9_finds := goodIn_r _ [0, 1, 2, 3, 4, 5, 6, 7, 8, 9, 10, 11, 12, 13, 14, 15, 16, 17, 18, 19, 20, 21, 22, 23, 24, 25, 26, 27, 28, 29, 30, 31, 32, 33, 34, 35, 36, 37, 38, 39, 40, 41, 42, 43, 44, 45, 46, 47, 48, 49, 50, 51, 52, 53, 54, 55, 56, 57, 58, 59, 60, 61] (by decide +kernel) (by decide +kernel)
set_option maxRecDepth 20000 in
theorem gX9_finds_X9_finds : GoodIn wsX9_finds (wsV RX9 245 RX9 yX9_finds wsX9_finds) := goodIn_app (goodIn_of _ (by decide +kernel)) ggX9_finds_X9_finds
theorem dX9_finds_0 : decode cX9_finds 0 = .ok (.iload_n 3, 1) := by decide +kernel
theorem dX9_finds_1 : decode cX9_finds 1 = .ok (.iload 4, 2) := by decide +kernel
theorem dX9_finds_3 : decode cX9_finds 3 = .ok (.if_icmp .ne 30, 3) := by decide +kernel
theorem dX9_finds_6 : decode cX9_finds 6 = .ok (.aload_n 0, 1) := by decide +kernel
theorem dX9_finds_7 : decode cX9_finds 7 = .ok (.dup, 1) := by decide +kernel
theorem dX9_finds_8 : decode cX9_finds 8 = .ok (.getfield 242, 3) := by decide +kernel
theorem dX9_finds_11 : decode cX9_finds 11 = .ok (.iconst 1, 1) := by decide +kernel
theorem dX9_finds_12 : decode cX9_finds 12 = .ok (.iadd, 1) := by decide +kernel
theorem dX9_finds_13 : decode cX9_finds 13 = .ok (.putfield 242, 3) := by decide +kernel
theorem dX9_finds_16 : decode cX9_finds 16 = .ok (.aload_n 0, 1) := by decide +kernel
theorem dX9_finds_17 : decode cX9_finds 17 = .ok (.getfield 242, 3) := by decide +kernel
theorem dX9_finds_20 : decode cX9_finds 20 = .ok (.iconst 1, 1) := by decide +kernel
theorem dX9_finds_21 : decode cX9_finds 21 = .ok (.isub, 1) := by decide +kernel
theorem dX9_finds_22 : decode cX9_finds 22 = .ok (.iload 5, 2) := by decide +kernel
theorem dX9_finds_24 : decode cX9_finds 24 = .ok (.if_icmp .ne 7, 3) := by decide +kernel
theorem dX9_finds_27 : decode cX9_finds 27 = .ok (.iconst 1, 1) := by decide +kernel
theorem dX9_finds_28 : decode cX9_finds 28 = .ok (.goto 4, 3) := by decide +kernel
theorem dX9_finds_31 : decode cX9_finds 31 = .ok (.iconst 0, 1) := by decide +kernel
theorem dX9_finds_32 : decode cX9_finds 32 = .ok (.ireturn, 1) := by decide +kernel
theorem dX9_finds_33 : decode cX9_finds 33 = .ok (.iload_n 2, 1) := by decide +kernel
theorem dX9_finds_34 : decode cX9_finds 34 = .ok (.istore 6, 2) := by decide +kernel
theorem dX9_finds_36 : decode cX9_finds 36 = .ok (.iload 6, 2) := by decide +kernel
theorem dX9_finds_38 : decode cX9_finds 38 = .ok (.iconst 1, 1) := by decide +kernel
theorem dX9_finds_39 : decode cX9_finds 39 = .ok (.iload_n 1, 1) := by decide +kernel
theorem dX9_finds_40 : decode cX9_finds 40 = .ok (.ishl, 1) := by decide +kernel
theorem dX9_finds_41 : decode cX9_finds 41 = .ok (.if_icmp .ge 103, 3) := by decide +kernel
theorem dX9_finds_44 : decode cX9_finds 44 = .ok (.iload 6, 2) := by decide +kernel
theorem dX9_finds_46 : decode cX9_finds 46 = .ok (.iload_n 1, 1) := by decide +kernel
theorem dX9_finds_47 : decode cX9_finds 47 = .ok (.invokestatic 216, 3) := by decide +kernel
theorem dX9_finds_50 : decode cX9_finds 50 = .ok (.ifCond .ne 6, 3) := by decide +kernel
theorem dX9_finds_53 : decode cX9_finds 53 = .ok (.goto 85, 3) := by decide +kernel
theorem dX9_finds_56 : decode cX9_finds 56 = .ok (.iconst 1, 1) := by decide +kernel
theorem dX9_finds_57 : decode cX9_finds 57 = .ok (.istore 7, 2) := by decide +kernel
theorem dX9_finds_59 : decode cX9_finds 59 = .ok (.iconst 0, 1) := by decide +kernel
theorem dX9_finds_60 : decode cX9_finds 60 = .ok (.istore 8, 2) := by decide +kernel
theorem dX9_finds_62 : decode cX9_finds 62 = .ok (.iload 8, 2) := by decide +kernel
theorem dX9_finds_64 : decode cX9_finds 64 = .ok (.iload_n 3, 1) := by decide +kernel
theorem dX9_finds_65 : decode cX9_finds 65 = .ok (.if_icmp .ge 36, 3) := by decide +kernel
theorem dX9_finds_68 : decode cX9_finds 68 = .ok (.iload 7, 2) := by decide +kernel
theorem dX9_finds_70 : decode cX9_finds 70 = .ok (.ifCond .eq 22, 3) := by decide +kernel
theorem dX9_finds_73 : decode cX9_finds 73 = .ok (.aload_n 0, 1) := by decide +kernel
theorem dX9_finds_74 : decode cX9_finds 74 = .ok (.getfield 41, 3) := by decide +kernel
theorem dX9_finds_77 : decode cX9_finds 77 = .ok (.iload 8, 2) := by decide +kernel
theorem dX9_finds_79 : decode cX9_finds 79 = .ok (.iaload, 1) := by decide +kernel
theorem dX9_finds_80 : decode cX9_finds 80 = .ok (.iload 6, 2) := by decide +kernel
theorem dX9_finds_82 : decode cX9_finds 82 = .ok (.invokestatic 210, 3) := by decide +kernel
theorem dX9_finds_85 : decode cX9_finds 85 = .ok (.ifCond .eq 7, 3) := by decide +kernel
theorem dX9_finds_88 : decode cX9_finds 88 = .ok (.iconst 1, 1) := by decide +kernel
theorem dX9_finds_89 : decode cX9_finds 89 = .ok (.goto 4, 3) := by decide +kernel
theorem dX9_finds_92 : decode cX9_finds 92 = .ok (.iconst 0, 1) := by decide +kernel
theorem dX9_finds_93 : decode cX9_finds 93 = .ok (.istore 7, 2) := by decide +kernel
theorem dX9_finds_95 : decode cX9_finds 95 = .ok (.iinc 8 1, 3) := by decide +kernel
theorem dX9_finds_98 : decode cX9_finds 98 = .ok (.goto (-36), 3) := by decide +kernel
theorem dX9_finds_101 : decode cX9_finds 101 = .ok (.iload 7, 2) := by decide +kernel
theorem dX9_finds_103 : decode cX9_finds 103 = .ok (.ifCond .ne 6, 3) := by decide +kernel
theorem dX9_finds_106 : decode cX9_finds 106 = .ok (.goto 32, 3) := by decide +kernel
theorem dX9_finds_109 : decode cX9_finds 109 = .ok (.aload_n 0, 1) := by decide +kernel
theorem dX9_finds_110 : decode cX9_finds 110 = .ok (.getfield 41, 3) := by decide +kernel
theorem dX9_finds_113 : decode cX9_finds 113 = .ok (.iload_n 3, 1) := by decide +kernel
theorem dX9_finds_114 : decode cX9_finds 114 = .ok (.iload 6, 2) := by decide +kernel
theorem dX9_finds_116 : decode cX9_finds 116 = .ok (.iastore, 1) := by decide +kernel
theorem dX9_finds_117 : decode cX9_finds 117 = .ok (.aload_n 0, 1) := by decide +kernel
theorem dX9_finds_118 : decode cX9_finds 118 = .ok (.iload_n 1, 1) := by decide +kernel
theorem dX9_finds_119 : decode cX9_finds 119 = .ok (.iload 6, 2) := by decide +kernel
theorem dX9_finds_121 : decode cX9_finds 121 = .ok (.iconst 1, 1) := by decide +kernel
theorem dX9_finds_122 : decode cX9_finds 122 = .ok (.iadd, 1) := by decide +kernel
theorem dX9_finds_123 : decode cX9_finds 123 = .ok (.iload_n 3, 1) := by decide +kernel
theorem dX9_finds_124 : decode cX9_finds 124 = .ok (.iconst 1, 1) := by decide +kernel
theorem dX9_finds_125 : decode cX9_finds 125 = .ok (.iadd, 1) := by decide +kernel
theorem dX9_finds_126 : decode cX9_finds 126 = .ok (.iload 4, 2) := by decide +kernel
theorem dX9_finds_128 : decode cX9_finds 128 = .ok (.iload 5, 2) := by decide +kernel
theorem dX9_finds_130 : decode cX9_finds 130 = .ok (.invokevirtual 245, 3) := by decide +kernel
theorem dX9_finds_133 : decode cX9_finds 133 = .ok (.ifCond .eq 5, 3) := by decide +kernel
theorem dX9_finds_136 : decode cX9_finds 136 = .ok (.iconst 1, 1) := by decide +kernel
theorem dX9_finds_137 : decode cX9_finds 137 = .ok (.ireturn, 1) := by decide +kernel
theorem dX9_finds_138 : decode cX9_finds 138 = .ok (.iinc 6 1, 3) := by decide +kernel
theorem dX9_finds_141 : decode cX9_finds 141 = .ok (.goto (-105), 3) := by decide +kernel
theorem dX9_finds_144 : decode cX9_finds 144 = .ok (.iconst 0, 1) := by decide +kernel
theorem dX9_finds_145 : decode cX9_finds 145 = .ok (.ireturn, 1) := by decide +kernel
set_option maxRecDepth 20000 in
theorem ggX9_trees_X9_in : GoodIn wsX9_trees wsX9_in := goodIn_r _ [8] (by decide +kernel) (by decide +kernel)
set_option maxRecDepth 20000 in
theorem gX9_trees_X9_in : GoodIn wsX9_trees (va_wsS RX9 110 yX9_in wsX9_in) := goodIn_app (goodIn_of _ (by decide +kernel)) ggX9_trees_X9_in
set_option maxRecDepth 20000 in
theorem ggX9_trees_X9_finds : GoodIn wsX9_trees wsX9_finds := goodIn_r _ [12, 4, 13, 14, 15, 7, 16, 17, 5, 6, 8, 18, 19, 20, 21, 22, 23, 9, 10, 11, 24, 25, 26, 27, 28, 29, 30, 31, 32, 33, 34, 35, 36, 37, 38, 39, 40, 41, 42, 43, 44, 45, 46, 47, 48, 49, 50, 51, 52, 53, 54, 55, 56, 57, 58, 59, 60, 61, 62, 63, 64, 65] (by decide +kernel) (by decide +kernel)
set_option maxRecDepth 20000 in
theorem gX9_trees_X9_finds : GoodIn wsX9_trees (wsV RX9 245 RX9 yX9_finds wsX9_finds) := goodIn_app (goodIn_of _ (by decide +kernel)) ggX9_trees_X9_finds
theorem dX9_trees_0 : decode cX9_trees 0 = .ok (.iload_n 1, 1) := by decide +kernel
theorem dX9_trees_1 : decode cX9_trees 1 = .ok (.i2l, 1) := by decide +kernel
theorem dX9_trees_2 : decode cX9_trees 2 = .ok (.ldc2_w 128, 3) := by decide +kernel
theorem dX9_trees_5 : decode cX9_trees 5 = .ok (.ldc2_w 214, 3) := by decide +kernel
theorem dX9_trees_8 : decode cX9_trees 8 = .ok (.invokestatic 110, 3) := by decide +kernel
theorem dX9_trees_11 : decode cX9_trees 11 = .ok (.ifCond .eq 15, 3) := by decide +kernel
theorem dX9_trees_14 : decode cX9_trees 14 = .ok (.iload_n 2, 1) := by decide +kernel
theorem dX9_trees_15 : decode cX9_trees 15 = .ok (.i2l, 1) := by decide +kernel
theorem dX9_trees_16 : decode cX9_trees 16 = .ok (.lconst 0, 1) := by decide +kernel
theorem dX9_trees_17 : decode cX9_trees 17 = .ok (.ldc2_w 201, 3) := by decide +kernel
theorem dX9_trees_20 : decode cX9_trees 20 = .ok (.invokestatic 110, 3) := by decide +kernel
theorem dX9_trees_23 : decode cX9_trees 23 = .ok (.ifCond .ne 5, 3) := by decide +kernel
theorem dX9_trees_26 : decode cX9_trees 26 = .ok (.iconst (-1), 1) := by decide +kernel
theorem dX9_trees_27 : decode cX9_trees 27 = .ok (.ireturn, 1) := by decide +kernel
theorem dX9_trees_28 : decode cX9_trees 28 = .ok (.aload_n 0, 1) := by decide +kernel
theorem dX9_trees_29 : decode cX9_trees 29 = .ok (.iconst 0, 1) := by decide +kernel
theorem dX9_trees_30 : decode cX9_trees 30 = .ok (.putfield 242, 3) := by decide +kernel
theorem dX9_trees_33 : decode cX9_trees 33 = .ok (.aload_n 0, 1) := by decide +kernel
theorem dX9_trees_34 : decode cX9_trees 34 = .ok (.iload_n 1, 1) := by decide +kernel
theorem dX9_trees_35 : decode cX9_trees 35 = .ok (.iconst 1, 1) := by decide +kernel
theorem dX9_trees_36 : decode cX9_trees 36 = .ok (.iconst 0, 1) := by decide +kernel
theorem dX9_trees_37 : decode cX9_trees 37 = .ok (.iload_n 2, 1) := by decide +kernel
theorem dX9_trees_38 : decode cX9_trees 38 = .ok (.iconst (-1), 1) := by decide +kernel
theorem dX9_trees_39 : decode cX9_trees 39 = .ok (.invokevirtual 245, 3) := by decide +kernel
theorem dX9_trees_42 : decode cX9_trees 42 = .ok (.istore_n 3, 1) := by decide +kernel
theorem dX9_trees_43 : decode cX9_trees 43 = .ok (.aload_n 0, 1) := by decide +kernel
theorem dX9_trees_44 : decode cX9_trees 44 = .ok (.getfield 242, 3) := by decide +kernel
theorem dX9_trees_47 : decode cX9_trees 47 = .ok (.ireturn, 1) := by decide +kernel
set_option maxRecDepth 20000 in
theorem ggX9_tree_X9_in : GoodIn wsX9_tree wsX9_in := goodIn_r _ [9] (by decide +kernel) (by decide +kernel)
set_option maxRecDepth 20000 in
theorem gX9_tree_X9_in : GoodIn wsX9_tree (va_wsS RX9 110 yX9_in wsX9_in) := goodIn_app (goodIn_of _ (by decide +kernel)) ggX9_tree_X9_in
set_option maxRecDepth 20000 in
theorem ggX9_tree_X9_finds : GoodIn wsX9_tree wsX9_finds := goodIn_r _ [13, 4, 5, 14, 15, 8, 16, 17, 6, 7, 9, 18, 19, 20, 21, 22, 23, 10, 11, 12, 24, 25, 26, 27, 28, 29, 30, 31, 32, 33, 34, 35, 36, 37, 38, 39, 40, 41, 42, 43, 44, 45, 46, 47, 48, 49, 50, 51, 52, 53, 54, 55, 56, 57, 58, 59, 60, 61, 62, 63, 64, 65] (by decide +kernel) (by decide +kernel)
set_option maxRecDepth 20000 in
theorem gX9_tree_X9_finds : GoodIn wsX9_tree (wsV RX9 245 RX9 yX9_finds wsX9_finds) := goodIn_app (goodIn_of _ (by decide +kernel)) ggX9_tree_X9_finds
theorem dX9_tree_0 : decode cX9_tree 0 = .ok (.iload_n 1, 1) := by decide +kernel
theorem dX9_tree_1 : decode cX9_tree 1 = .ok (.i2l, 1) := by decide +kernel
theorem dX9_tree_2 : decode cX9_tree 2 = .ok (.ldc2_w 128, 3) := by decide +kernel
theorem dX9_tree_5 : decode cX9_tree 5 = .ok (.ldc2_w 214, 3) := by decide +kernel
theorem dX9_tree_8 : decode cX9_tree 8 = .ok (.invokestatic 110, 3) := by decide +kernel
theorem dX9_tree_11 : decode cX9_tree 11 = .ok (.ifCond .eq 24, 3) := by decide +kernel
theorem dX9_tree_14 : decode cX9_tree 14 = .ok (.iload_n 2, 1) := by decide +kernel
theorem dX9_tree_15 : decode cX9_tree 15 = .ok (.i2l, 1) := by decide +kernel
theorem dX9_tree_16 : decode cX9_tree 16 = .ok (.lconst 0, 1) := by decide +kernel
theorem dX9_tree_17 : decode cX9_tree 17 = .ok (.ldc2_w 201, 3) := by decide +kernel
theorem dX9_tree_20 : decode cX9_tree 20 = .ok (.invokestatic 110, 3) := by decide +kernel
theorem dX9_tree_23 : decode cX9_tree 23 = .ok (.ifCond .eq 12, 3) := by decide +kernel
theorem dX9_tree_26 : decode cX9_tree 26 = .ok (.iload_n 3, 1) := by decide +kernel
theorem dX9_tree_27 : decode cX9_tree 27 = .ok (.ifCond .lt 8, 3) := by decide +kernel
theorem dX9_tree_30 : decode cX9_tree 30 = .ok (.iload 4, 2) := by decide +kernel
theorem dX9_tree_32 : decode cX9_tree 32 = .ok (.ifCond .ge 5, 3) := by decide +kernel
theorem dX9_tree_35 : decode cX9_tree 35 = .ok (.iconst (-1), 1) := by decide +kernel
theorem dX9_tree_36 : decode cX9_tree 36 = .ok (.ireturn, 1) := by decide +kernel
theorem dX9_tree_37 : decode cX9_tree 37 = .ok (.aload_n 0, 1) := by decide +kernel
theorem dX9_tree_38 : decode cX9_tree 38 = .ok (.iconst 0, 1) := by decide +kernel
theorem dX9_tree_39 : decode cX9_tree 39 = .ok (.putfield 242, 3) := by decide +kernel
theorem dX9_tree_42 : decode cX9_tree 42 = .ok (.aload_n 0, 1) := by decide +kernel
theorem dX9_tree_43 : decode cX9_tree 43 = .ok (.iload_n 1, 1) := by decide +kernel
theorem dX9_tree_44 : decode cX9_tree 44 = .ok (.iconst 1, 1) := by decide +kernel
theorem dX9_tree_45 : decode cX9_tree 45 = .ok (.iconst 0, 1) := by decide +kernel
theorem dX9_tree_46 : decode cX9_tree 46 = .ok (.iload_n 2, 1) := by decide +kernel
theorem dX9_tree_47 : decode cX9_tree 47 = .ok (.iload_n 3, 1) := by decide +kernel
theorem dX9_tree_48 : decode cX9_tree 48 = .ok (.invokevirtual 245, 3) := by decide +kernel
theorem dX9_tree_51 : decode cX9_tree 51 = .ok (.ifCond .eq 19, 3) := by decide +kernel
theorem dX9_tree_54 : decode cX9_tree 54 = .ok (.iload 4, 2) := by decide +kernel
theorem dX9_tree_56 : decode cX9_tree 56 = .ok (.iload_n 2, 1) := by decide +kernel
theorem dX9_tree_57 : decode cX9_tree 57 = .ok (.if_icmp .ge 13, 3) := by decide +kernel
theorem dX9_tree_60 : decode cX9_tree 60 = .ok (.aload_n 0, 1) := by decide +kernel
theorem dX9_tree_61 : decode cX9_tree 61 = .ok (.getfield 41, 3) := by decide +kernel
theorem dX9_tree_64 : decode cX9_tree 64 = .ok (.iload 4, 2) := by decide +kernel
