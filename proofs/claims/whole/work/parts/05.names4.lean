theorem dX9_tree_66 : decode cX9_tree 66 = .ok (.iaload, 1) := by decide +kernel
theorem dX9_tree_67 : decode cX9_tree 67 = .ok (.goto 5, 3) := by decide +kernel
theorem dX9_tree_70 : decode cX9_tree 70 = .ok (.bipush (-2), 2) := by decide +kernel
theorem dX9_tree_72 : decode cX9_tree 72 = .ok (.ireturn, 1) := by decide +kernel
theorem dX9_without_0 : decode cX9_without 0 = .ok (.iload_n 0, 1) := by decide +kernel
theorem dX9_without_1 : decode cX9_without 1 = .ok (.iconst 1, 1) := by decide +kernel
theorem dX9_without_2 : decode cX9_without 2 = .ok (.iload_n 1, 1) := by decide +kernel
theorem dX9_without_3 : decode cX9_without 3 = .ok (.ishl, 1) := by decide +kernel
theorem dX9_without_4 : decode cX9_without 4 = .ok (.iconst 1, 1) := by decide +kernel
theorem dX9_without_5 : decode cX9_without 5 = .ok (.isub, 1) := by decide +kernel
theorem dX9_without_6 : decode cX9_without 6 = .ok (.iand, 1) := by decide +kernel
theorem dX9_without_7 : decode cX9_without 7 = .ok (.istore_n 3, 1) := by decide +kernel
theorem dX9_without_8 : decode cX9_without 8 = .ok (.iload_n 3, 1) := by decide +kernel
theorem dX9_without_9 : decode cX9_without 9 = .ok (.iload_n 0, 1) := by decide +kernel
theorem dX9_without_10 : decode cX9_without 10 = .ok (.iload_n 1, 1) := by decide +kernel
theorem dX9_without_11 : decode cX9_without 11 = .ok (.iconst 1, 1) := by decide +kernel
theorem dX9_without_12 : decode cX9_without 12 = .ok (.iadd, 1) := by decide +kernel
theorem dX9_without_13 : decode cX9_without 13 = .ok (.ishr, 1) := by decide +kernel
theorem dX9_without_14 : decode cX9_without 14 = .ok (.iload_n 1, 1) := by decide +kernel
theorem dX9_without_15 : decode cX9_without 15 = .ok (.ishl, 1) := by decide +kernel
theorem dX9_without_16 : decode cX9_without 16 = .ok (.ior, 1) := by decide +kernel
theorem dX9_without_17 : decode cX9_without 17 = .ok (.istore 4, 2) := by decide +kernel
theorem dX9_without_19 : decode cX9_without 19 = .ok (.iload 4, 2) := by decide +kernel
theorem dX9_without_21 : decode cX9_without 21 = .ok (.iconst 1, 1) := by decide +kernel
theorem dX9_without_22 : decode cX9_without 22 = .ok (.iand, 1) := by decide +kernel
theorem dX9_without_23 : decode cX9_without 23 = .ok (.iconst 1, 1) := by decide +kernel
theorem dX9_without_24 : decode cX9_without 24 = .ok (.if_icmp .ne 16, 3) := by decide +kernel
theorem dX9_without_27 : decode cX9_without 27 = .ok (.iconst 1, 1) := by decide +kernel
theorem dX9_without_28 : decode cX9_without 28 = .ok (.iload_n 2, 1) := by decide +kernel
theorem dX9_without_29 : decode cX9_without 29 = .ok (.ishl, 1) := by decide +kernel
theorem dX9_without_30 : decode cX9_without 30 = .ok (.iconst 1, 1) := by decide +kernel
theorem dX9_without_31 : decode cX9_without 31 = .ok (.isub, 1) := by decide +kernel
theorem dX9_without_32 : decode cX9_without 32 = .ok (.iload 4, 2) := by decide +kernel
theorem dX9_without_34 : decode cX9_without 34 = .ok (.iconst (-1), 1) := by decide +kernel
theorem dX9_without_35 : decode cX9_without 35 = .ok (.ixor, 1) := by decide +kernel
theorem dX9_without_36 : decode cX9_without 36 = .ok (.iand, 1) := by decide +kernel
theorem dX9_without_37 : decode cX9_without 37 = .ok (.goto 5, 3) := by decide +kernel
theorem dX9_without_40 : decode cX9_without 40 = .ok (.iload 4, 2) := by decide +kernel
theorem dX9_without_42 : decode cX9_without 42 = .ok (.ireturn, 1) := by decide +kernel
set_option maxRecDepth 20000 in
theorem ggX9_forget_X9_in : GoodIn wsX9_forget wsX9_in := goodIn_r _ [7] (by decide +kernel) (by decide +kernel)
set_option maxRecDepth 20000 in
theorem gX9_forget_X9_in : GoodIn wsX9_forget (va_wsS RX9 110 yX9_in wsX9_in) := goodIn_app (goodIn_of _ (by decide +kernel)) ggX9_forget_X9_in
set_option maxRecDepth 20000 in
theorem ggX9_forget_X9_begins : GoodIn wsX9_forget wsX9_begins := goodIn_r _ [11, 3, 12, 13, 14, 6, 15, 16, 17, 1, 2, 18, 19, 49, 50, 51, 52, 53, 54, 55, 56, 57, 58, 59, 60, 61, 62, 63, 64, 65, 66, 67, 68, 69, 70, 71, 72, 73, 74, 75, 76, 77, 78, 79, 80, 81, 82, 83, 84, 85, 86, 87, 88, 89, 90] (by decide +kernel) (by decide +kernel)
set_option maxRecDepth 20000 in
theorem gX9_forget_X9_begins : GoodIn wsX9_forget (wsV RX9 116 RX9 yX9_begins wsX9_begins) := goodIn_app (goodIn_of _ (by decide +kernel)) ggX9_forget_X9_begins
set_option maxRecDepth 20000 in
theorem ggX9_forget_X9_without : GoodIn wsX9_forget wsX9_without := goodIn_r _ [22] (by decide +kernel) (by decide +kernel)
set_option maxRecDepth 20000 in
theorem gX9_forget_X9_without : GoodIn wsX9_forget (va_wsS RX9 249 yX9_without wsX9_without) := goodIn_app (goodIn_of _ (by decide +kernel)) ggX9_forget_X9_without
set_option maxRecDepth 20000 in
theorem ggX9_forget_X9_isSplit : GoodIn wsX9_forget wsX9_isSplit := goodIn_r _ [25, 26, 4, 5, 6, 7, 27, 28, 29] (by decide +kernel) (by decide +kernel)
set_option maxRecDepth 20000 in
theorem gX9_forget_X9_isSplit : GoodIn wsX9_forget (va_wsS RX9 216 yX9_isSplit wsX9_isSplit) := goodIn_app (goodIn_of _ (by decide +kernel)) ggX9_forget_X9_isSplit
set_option maxRecDepth 20000 in
theorem ggX9_forget_X9_placeOf : GoodIn wsX9_forget wsX9_placeOf := goodIn_r _ [33, 2, 19, 49, 50, 51, 52, 53, 54, 55, 56, 57, 58, 59, 60, 61, 62, 63, 64, 65, 66, 67, 68, 69, 70, 71, 72, 73, 74, 75, 76, 77, 78, 79, 80, 81, 82, 83, 84, 85, 86, 87, 88, 89, 90] (by decide +kernel) (by decide +kernel)
set_option maxRecDepth 20000 in
theorem gX9_forget_X9_placeOf : GoodIn wsX9_forget (wsV RX9 226 RX9 yX9_placeOf wsX9_placeOf) := goodIn_app (goodIn_of _ (by decide +kernel)) ggX9_forget_X9_placeOf
set_option maxRecDepth 20000 in
theorem ggX9_forget_X9_comes : GoodIn wsX9_forget wsX9_comes := goodIn_r _ [37, 19, 2, 38, 39, 6, 40, 49, 50, 51, 52, 53, 54, 55, 56, 57, 58, 59, 60, 61, 62, 63, 64, 65, 66, 67, 68, 69, 70, 71, 72, 73, 74, 75, 76, 77, 78, 79, 80, 81, 82, 83, 84, 85, 86, 87, 88, 89, 90] (by decide +kernel) (by decide +kernel)
set_option maxRecDepth 20000 in
theorem gX9_forget_X9_comes : GoodIn wsX9_forget (wsV RX9 222 RX9 yX9_comes wsX9_comes) := goodIn_app (goodIn_of _ (by decide +kernel)) ggX9_forget_X9_comes
set_option maxRecDepth 20000 in
theorem ggX9_forget_X9_ends : GoodIn wsX9_forget wsX9_ends := goodIn_r _ [44, 45, 3, 46, 47, 48, 12, 13, 14, 6, 15, 16, 17, 1, 2, 18, 19, 49, 50, 51, 52, 53, 54, 55, 56, 57, 58, 59, 60, 61, 62, 63, 64, 65, 66, 67, 68, 69, 70, 71, 72, 73, 74, 75, 76, 77, 78, 79, 80, 81, 82, 83, 84, 85, 86, 87, 88, 89, 90] (by decide +kernel) (by decide +kernel)
set_option maxRecDepth 20000 in
theorem gX9_forget_X9_ends : GoodIn wsX9_forget (wsV RX9 119 RX9 yX9_ends wsX9_ends) := goodIn_app (goodIn_of _ (by decide +kernel)) ggX9_forget_X9_ends
theorem dX9_forget_0 : decode cX9_forget 0 = .ok (.iload_n 1, 1) := by decide +kernel
theorem dX9_forget_1 : decode cX9_forget 1 = .ok (.i2l, 1) := by decide +kernel
theorem dX9_forget_2 : decode cX9_forget 2 = .ok (.lconst 0, 1) := by decide +kernel
theorem dX9_forget_3 : decode cX9_forget 3 = .ok (.aload_n 0, 1) := by decide +kernel
theorem dX9_forget_4 : decode cX9_forget 4 = .ok (.getfield 15, 3) := by decide +kernel
theorem dX9_forget_7 : decode cX9_forget 7 = .ok (.iconst 1, 1) := by decide +kernel
theorem dX9_forget_8 : decode cX9_forget 8 = .ok (.isub, 1) := by decide +kernel
theorem dX9_forget_9 : decode cX9_forget 9 = .ok (.i2l, 1) := by decide +kernel
theorem dX9_forget_10 : decode cX9_forget 10 = .ok (.invokestatic 110, 3) := by decide +kernel
theorem dX9_forget_13 : decode cX9_forget 13 = .ok (.ifCond .ne 5, 3) := by decide +kernel
theorem dX9_forget_16 : decode cX9_forget 16 = .ok (.iconst (-1), 1) := by decide +kernel
theorem dX9_forget_17 : decode cX9_forget 17 = .ok (.ireturn, 1) := by decide +kernel
theorem dX9_forget_18 : decode cX9_forget 18 = .ok (.aload_n 0, 1) := by decide +kernel
theorem dX9_forget_19 : decode cX9_forget 19 = .ok (.getfield 15, 3) := by decide +kernel
theorem dX9_forget_22 : decode cX9_forget 22 = .ok (.iconst 3, 1) := by decide +kernel
theorem dX9_forget_23 : decode cX9_forget 23 = .ok (.if_icmp .ne 6, 3) := by decide +kernel
theorem dX9_forget_26 : decode cX9_forget 26 = .ok (.bipush (-5), 2) := by decide +kernel
theorem dX9_forget_28 : decode cX9_forget 28 = .ok (.ireturn, 1) := by decide +kernel
theorem dX9_forget_29 : decode cX9_forget 29 = .ok (.aload_n 0, 1) := by decide +kernel
theorem dX9_forget_30 : decode cX9_forget 30 = .ok (.invokevirtual 116, 3) := by decide +kernel
theorem dX9_forget_33 : decode cX9_forget 33 = .ok (.aload_n 0, 1) := by decide +kernel
theorem dX9_forget_34 : decode cX9_forget 34 = .ok (.getfield 94, 3) := by decide +kernel
theorem dX9_forget_37 : decode cX9_forget 37 = .ok (.istore_n 2, 1) := by decide +kernel
theorem dX9_forget_38 : decode cX9_forget 38 = .ok (.aload_n 0, 1) := by decide +kernel
theorem dX9_forget_39 : decode cX9_forget 39 = .ok (.dup, 1) := by decide +kernel
theorem dX9_forget_40 : decode cX9_forget 40 = .ok (.getfield 15, 3) := by decide +kernel
theorem dX9_forget_43 : decode cX9_forget 43 = .ok (.iconst 1, 1) := by decide +kernel
theorem dX9_forget_44 : decode cX9_forget 44 = .ok (.isub, 1) := by decide +kernel
theorem dX9_forget_45 : decode cX9_forget 45 = .ok (.putfield 15, 3) := by decide +kernel
theorem dX9_forget_48 : decode cX9_forget 48 = .ok (.aload_n 0, 1) := by decide +kernel
theorem dX9_forget_49 : decode cX9_forget 49 = .ok (.iconst 0, 1) := by decide +kernel
theorem dX9_forget_50 : decode cX9_forget 50 = .ok (.putfield 94, 3) := by decide +kernel
theorem dX9_forget_53 : decode cX9_forget 53 = .ok (.iconst 0, 1) := by decide +kernel
theorem dX9_forget_54 : decode cX9_forget 54 = .ok (.istore_n 3, 1) := by decide +kernel
theorem dX9_forget_55 : decode cX9_forget 55 = .ok (.iload_n 3, 1) := by decide +kernel
theorem dX9_forget_56 : decode cX9_forget 56 = .ok (.iload_n 2, 1) := by decide +kernel
theorem dX9_forget_57 : decode cX9_forget 57 = .ok (.if_icmp .ge 55, 3) := by decide +kernel
theorem dX9_forget_60 : decode cX9_forget 60 = .ok (.aload_n 0, 1) := by decide +kernel
theorem dX9_forget_61 : decode cX9_forget 61 = .ok (.getfield 28, 3) := by decide +kernel
theorem dX9_forget_64 : decode cX9_forget 64 = .ok (.bipush 12, 2) := by decide +kernel
theorem dX9_forget_66 : decode cX9_forget 66 = .ok (.iload_n 3, 1) := by decide +kernel
theorem dX9_forget_67 : decode cX9_forget 67 = .ok (.iadd, 1) := by decide +kernel
theorem dX9_forget_68 : decode cX9_forget 68 = .ok (.iaload, 1) := by decide +kernel
theorem dX9_forget_69 : decode cX9_forget 69 = .ok (.iload_n 1, 1) := by decide +kernel
theorem dX9_forget_70 : decode cX9_forget 70 = .ok (.aload_n 0, 1) := by decide +kernel
theorem dX9_forget_71 : decode cX9_forget 71 = .ok (.getfield 15, 3) := by decide +kernel
theorem dX9_forget_74 : decode cX9_forget 74 = .ok (.invokestatic 249, 3) := by decide +kernel
theorem dX9_forget_77 : decode cX9_forget 77 = .ok (.istore 4, 2) := by decide +kernel
theorem dX9_forget_79 : decode cX9_forget 79 = .ok (.iload 4, 2) := by decide +kernel
theorem dX9_forget_81 : decode cX9_forget 81 = .ok (.aload_n 0, 1) := by decide +kernel
theorem dX9_forget_82 : decode cX9_forget 82 = .ok (.getfield 15, 3) := by decide +kernel
theorem dX9_forget_85 : decode cX9_forget 85 = .ok (.invokestatic 216, 3) := by decide +kernel
theorem dX9_forget_88 : decode cX9_forget 88 = .ok (.ifCond .eq 18, 3) := by decide +kernel
theorem dX9_forget_91 : decode cX9_forget 91 = .ok (.aload_n 0, 1) := by decide +kernel
theorem dX9_forget_92 : decode cX9_forget 92 = .ok (.iload 4, 2) := by decide +kernel
theorem dX9_forget_94 : decode cX9_forget 94 = .ok (.invokevirtual 226, 3) := by decide +kernel
theorem dX9_forget_97 : decode cX9_forget 97 = .ok (.ifCond .ge 9, 3) := by decide +kernel
theorem dX9_forget_100 : decode cX9_forget 100 = .ok (.aload_n 0, 1) := by decide +kernel
theorem dX9_forget_101 : decode cX9_forget 101 = .ok (.iload 4, 2) := by decide +kernel
theorem dX9_forget_103 : decode cX9_forget 103 = .ok (.invokevirtual 222, 3) := by decide +kernel
theorem dX9_forget_106 : decode cX9_forget 106 = .ok (.iinc 3 1, 3) := by decide +kernel
theorem dX9_forget_109 : decode cX9_forget 109 = .ok (.goto (-54), 3) := by decide +kernel
theorem dX9_forget_112 : decode cX9_forget 112 = .ok (.aload_n 0, 1) := by decide +kernel
theorem dX9_forget_113 : decode cX9_forget 113 = .ok (.invokevirtual 119, 3) := by decide +kernel
theorem dX9_forget_116 : decode cX9_forget 116 = .ok (.aload_n 0, 1) := by decide +kernel
theorem dX9_forget_117 : decode cX9_forget 117 = .ok (.getfield 94, 3) := by decide +kernel
theorem dX9_forget_120 : decode cX9_forget 120 = .ok (.ireturn, 1) := by decide +kernel
set_option maxRecDepth 20000 in
theorem ggX9_numberAtNode_X9_at : GoodIn wsX9_numberAtNode wsX9_at := goodIn_r _ [8, 1, 9, 10, 11, 12, 13, 7, 14, 15, 16, 17, 18, 48, 49, 50, 51, 52, 53, 54, 55, 56, 57, 58, 59, 60, 61, 62, 63, 64, 65, 66, 67, 68, 69, 70, 71, 72, 73, 74, 75, 76, 77, 78, 79, 80, 81, 82, 83, 84, 85, 86, 87, 88, 89] (by decide +kernel) (by decide +kernel)
set_option maxRecDepth 20000 in
theorem gX9_numberAtNode_X9_at : GoodIn wsX9_numberAtNode (wsV RX9 236 RX9 yX9_at wsX9_at) := goodIn_app (goodIn_of _ (by decide +kernel)) ggX9_numberAtNode_X9_at
set_option maxRecDepth 20000 in
theorem ggX9_numberAtNode_X9_edges : GoodIn wsX9_numberAtNode wsX9_edges := goodIn_r _ [22, 9, 11, 12, 13, 7, 14, 10, 15, 16, 17, 18, 48, 49, 50, 51, 52, 53, 54, 55, 56, 57, 58, 59, 60, 61, 62, 63, 64, 65, 66, 67, 68, 69, 70, 71, 72, 73, 74, 75, 76, 77, 78, 79, 80, 81, 82, 83, 84, 85, 86, 87, 88, 89] (by decide +kernel) (by decide +kernel)
set_option maxRecDepth 20000 in
theorem gX9_numberAtNode_X9_edges : GoodIn wsX9_numberAtNode (wsV RX9 239 RX9 yX9_edges wsX9_edges) := goodIn_app (goodIn_of _ (by decide +kernel)) ggX9_numberAtNode_X9_edges
set_option maxRecDepth 20000 in
theorem ggX9_numberAtNode_X9_numberOf : GoodIn wsX9_numberAtNode wsX9_numberOf := goodIn_r _ [26, 2, 27, 28, 7, 29, 30, 31, 32, 33, 34, 35, 36, 37, 38, 39, 40, 41, 42, 43, 44, 45, 46, 47, 48, 49, 50, 51, 52, 53, 54, 55, 56, 57, 58, 59, 60, 61, 62, 63, 64, 65, 66, 67, 68, 69, 70, 71, 72, 73, 74, 75, 76, 77, 78, 79, 80, 81, 82, 83, 84, 85, 86, 87, 88, 89] (by decide +kernel) (by decide +kernel)
set_option maxRecDepth 20000 in
theorem gX9_numberAtNode_X9_numberOf : GoodIn wsX9_numberAtNode (wsV RX9 165 RX9 yX9_numberOf wsX9_numberOf) := goodIn_app (goodIn_of _ (by decide +kernel)) ggX9_numberAtNode_X9_numberOf
theorem dX9_numberAtNode_0 : decode cX9_numberAtNode 0 = .ok (.aload_n 0, 1) := by decide +kernel
theorem dX9_numberAtNode_1 : decode cX9_numberAtNode 1 = .ok (.iload_n 1, 1) := by decide +kernel
theorem dX9_numberAtNode_2 : decode cX9_numberAtNode 2 = .ok (.invokevirtual 236, 3) := by decide +kernel
theorem dX9_numberAtNode_5 : decode cX9_numberAtNode 5 = .ok (.istore_n 2, 1) := by decide +kernel
theorem dX9_numberAtNode_6 : decode cX9_numberAtNode 6 = .ok (.iconst 0, 1) := by decide +kernel
theorem dX9_numberAtNode_7 : decode cX9_numberAtNode 7 = .ok (.istore_n 3, 1) := by decide +kernel
theorem dX9_numberAtNode_8 : decode cX9_numberAtNode 8 = .ok (.iconst 0, 1) := by decide +kernel
theorem dX9_numberAtNode_9 : decode cX9_numberAtNode 9 = .ok (.istore 4, 2) := by decide +kernel
theorem dX9_numberAtNode_11 : decode cX9_numberAtNode 11 = .ok (.iload 4, 2) := by decide +kernel
theorem dX9_numberAtNode_13 : decode cX9_numberAtNode 13 = .ok (.aload_n 0, 1) := by decide +kernel
theorem dX9_numberAtNode_14 : decode cX9_numberAtNode 14 = .ok (.getfield 15, 3) := by decide +kernel
theorem dX9_numberAtNode_17 : decode cX9_numberAtNode 17 = .ok (.if_icmp .ge 37, 3) := by decide +kernel
theorem dX9_numberAtNode_20 : decode cX9_numberAtNode 20 = .ok (.iload_n 2, 1) := by decide +kernel
theorem dX9_numberAtNode_21 : decode cX9_numberAtNode 21 = .ok (.iload 4, 2) := by decide +kernel
theorem dX9_numberAtNode_23 : decode cX9_numberAtNode 23 = .ok (.ishr, 1) := by decide +kernel
theorem dX9_numberAtNode_24 : decode cX9_numberAtNode 24 = .ok (.iconst 1, 1) := by decide +kernel
theorem dX9_numberAtNode_25 : decode cX9_numberAtNode 25 = .ok (.iand, 1) := by decide +kernel
theorem dX9_numberAtNode_26 : decode cX9_numberAtNode 26 = .ok (.ifCond .ne 6, 3) := by decide +kernel
theorem dX9_numberAtNode_29 : decode cX9_numberAtNode 29 = .ok (.goto 19, 3) := by decide +kernel
theorem dX9_numberAtNode_32 : decode cX9_numberAtNode 32 = .ok (.aload_n 0, 1) := by decide +kernel
theorem dX9_numberAtNode_33 : decode cX9_numberAtNode 33 = .ok (.getfield 31, 3) := by decide +kernel
theorem dX9_numberAtNode_36 : decode cX9_numberAtNode 36 = .ok (.iload_n 3, 1) := by decide +kernel
theorem dX9_numberAtNode_37 : decode cX9_numberAtNode 37 = .ok (.aload_n 0, 1) := by decide +kernel
theorem dX9_numberAtNode_38 : decode cX9_numberAtNode 38 = .ok (.getfield 11, 3) := by decide +kernel
theorem dX9_numberAtNode_41 : decode cX9_numberAtNode 41 = .ok (.iload 4, 2) := by decide +kernel
theorem dX9_numberAtNode_43 : decode cX9_numberAtNode 43 = .ok (.iaload, 1) := by decide +kernel
theorem dX9_numberAtNode_44 : decode cX9_numberAtNode 44 = .ok (.iastore, 1) := by decide +kernel
theorem dX9_numberAtNode_45 : decode cX9_numberAtNode 45 = .ok (.iinc 3 1, 3) := by decide +kernel
theorem dX9_numberAtNode_48 : decode cX9_numberAtNode 48 = .ok (.iinc 4 1, 3) := by decide +kernel
theorem dX9_numberAtNode_51 : decode cX9_numberAtNode 51 = .ok (.goto (-40), 3) := by decide +kernel
theorem dX9_numberAtNode_54 : decode cX9_numberAtNode 54 = .ok (.iload_n 3, 1) := by decide +kernel
theorem dX9_numberAtNode_55 : decode cX9_numberAtNode 55 = .ok (.aload_n 0, 1) := by decide +kernel
theorem dX9_numberAtNode_56 : decode cX9_numberAtNode 56 = .ok (.iload_n 1, 1) := by decide +kernel
theorem dX9_numberAtNode_57 : decode cX9_numberAtNode 57 = .ok (.invokevirtual 239, 3) := by decide +kernel
theorem dX9_numberAtNode_60 : decode cX9_numberAtNode 60 = .ok (.iadd, 1) := by decide +kernel
theorem dX9_numberAtNode_61 : decode cX9_numberAtNode 61 = .ok (.istore 4, 2) := by decide +kernel
theorem dX9_numberAtNode_63 : decode cX9_numberAtNode 63 = .ok (.iload_n 3, 1) := by decide +kernel
theorem dX9_numberAtNode_64 : decode cX9_numberAtNode 64 = .ok (.iload 4, 2) := by decide +kernel
theorem dX9_numberAtNode_66 : decode cX9_numberAtNode 66 = .ok (.if_icmp .ge 16, 3) := by decide +kernel
theorem dX9_numberAtNode_69 : decode cX9_numberAtNode 69 = .ok (.aload_n 0, 1) := by decide +kernel
theorem dX9_numberAtNode_70 : decode cX9_numberAtNode 70 = .ok (.getfield 31, 3) := by decide +kernel
theorem dX9_numberAtNode_73 : decode cX9_numberAtNode 73 = .ok (.iload_n 3, 1) := by decide +kernel
theorem dX9_numberAtNode_74 : decode cX9_numberAtNode 74 = .ok (.iconst 0, 1) := by decide +kernel
theorem dX9_numberAtNode_75 : decode cX9_numberAtNode 75 = .ok (.iastore, 1) := by decide +kernel
theorem dX9_numberAtNode_76 : decode cX9_numberAtNode 76 = .ok (.iinc 3 1, 3) := by decide +kernel
theorem dX9_numberAtNode_79 : decode cX9_numberAtNode 79 = .ok (.goto (-16), 3) := by decide +kernel
theorem dX9_numberAtNode_82 : decode cX9_numberAtNode 82 = .ok (.aload_n 0, 1) := by decide +kernel
theorem dX9_numberAtNode_83 : decode cX9_numberAtNode 83 = .ok (.iconst 0, 1) := by decide +kernel
theorem dX9_numberAtNode_84 : decode cX9_numberAtNode 84 = .ok (.iload_n 3, 1) := by decide +kernel
theorem dX9_numberAtNode_85 : decode cX9_numberAtNode 85 = .ok (.invokevirtual 165, 3) := by decide +kernel
theorem dX9_numberAtNode_88 : decode cX9_numberAtNode 88 = .ok (.lreturn, 1) := by decide +kernel
set_option maxRecDepth 20000 in
theorem ggX9_onTree_X9_numberAtNode : GoodIn wsX9_onTree wsX9_numberAtNode := goodIn_r _ [10, 2, 11, 12, 13, 14, 15, 9, 16, 4, 5, 17, 18, 19, 20, 21, 22, 23, 24, 25, 26, 27, 28, 29, 30, 31, 32, 33, 34, 35, 36, 37, 38, 39, 40, 41, 42, 43, 44, 45, 46, 47, 48, 49, 50, 51, 52, 53, 54, 55, 56, 57, 58, 59, 60, 61, 62, 63, 64, 65, 66, 67, 68, 69, 70, 71, 72, 73, 74, 75, 76, 77, 78, 79, 80, 81, 82, 83, 84, 85, 86, 87, 88, 89, 90, 91, 92, 93, 94, 95] (by decide +kernel) (by decide +kernel)
set_option maxRecDepth 20000 in
theorem gX9_onTree_X9_numberAtNode : GoodIn wsX9_onTree (wsV RX9 253 RX9 yX9_numberAtNode wsX9_numberAtNode) := goodIn_app (goodIn_of _ (by decide +kernel)) ggX9_onTree_X9_numberAtNode
theorem dX9_onTree_0 : decode cX9_onTree 0 = .ok (.aload_n 0, 1) := by decide +kernel
theorem dX9_onTree_1 : decode cX9_onTree 1 = .ok (.getfield 91, 3) := by decide +kernel
theorem dX9_onTree_4 : decode cX9_onTree 4 = .ok (.aload_n 0, 1) := by decide +kernel
theorem dX9_onTree_5 : decode cX9_onTree 5 = .ok (.getfield 15, 3) := by decide +kernel
theorem dX9_onTree_8 : decode cX9_onTree 8 = .ok (.if_icmp .eq 7, 3) := by decide +kernel
theorem dX9_onTree_11 : decode cX9_onTree 11 = .ok (.ldc2_w 181, 3) := by decide +kernel
theorem dX9_onTree_14 : decode cX9_onTree 14 = .ok (.lreturn, 1) := by decide +kernel
theorem dX9_onTree_15 : decode cX9_onTree 15 = .ok (.aload_n 0, 1) := by decide +kernel
theorem dX9_onTree_16 : decode cX9_onTree 16 = .ok (.iconst 0, 1) := by decide +kernel
theorem dX9_onTree_17 : decode cX9_onTree 17 = .ok (.invokevirtual 253, 3) := by decide +kernel
theorem dX9_onTree_20 : decode cX9_onTree 20 = .ok (.lstore_n 1, 1) := by decide +kernel
theorem dX9_onTree_21 : decode cX9_onTree 21 = .ok (.iconst 0, 1) := by decide +kernel
theorem dX9_onTree_22 : decode cX9_onTree 22 = .ok (.istore_n 3, 1) := by decide +kernel
theorem dX9_onTree_23 : decode cX9_onTree 23 = .ok (.iload_n 3, 1) := by decide +kernel
theorem dX9_onTree_24 : decode cX9_onTree 24 = .ok (.aload_n 0, 1) := by decide +kernel
theorem dX9_onTree_25 : decode cX9_onTree 25 = .ok (.getfield 94, 3) := by decide +kernel
theorem dX9_onTree_28 : decode cX9_onTree 28 = .ok (.if_icmp .ge 22, 3) := by decide +kernel
theorem dX9_onTree_31 : decode cX9_onTree 31 = .ok (.lload_n 1, 1) := by decide +kernel
theorem dX9_onTree_32 : decode cX9_onTree 32 = .ok (.aload_n 0, 1) := by decide +kernel
theorem dX9_onTree_33 : decode cX9_onTree 33 = .ok (.aload_n 0, 1) := by decide +kernel
theorem dX9_onTree_34 : decode cX9_onTree 34 = .ok (.getfield 19, 3) := by decide +kernel
theorem dX9_onTree_37 : decode cX9_onTree 37 = .ok (.iload_n 3, 1) := by decide +kernel
theorem dX9_onTree_38 : decode cX9_onTree 38 = .ok (.iaload, 1) := by decide +kernel
theorem dX9_onTree_39 : decode cX9_onTree 39 = .ok (.invokevirtual 253, 3) := by decide +kernel
theorem dX9_onTree_42 : decode cX9_onTree 42 = .ok (.lmul, 1) := by decide +kernel
theorem dX9_onTree_43 : decode cX9_onTree 43 = .ok (.lstore_n 1, 1) := by decide +kernel
theorem dX9_onTree_44 : decode cX9_onTree 44 = .ok (.iinc 3 1, 3) := by decide +kernel
theorem dX9_onTree_47 : decode cX9_onTree 47 = .ok (.goto (-24), 3) := by decide +kernel
theorem dX9_onTree_50 : decode cX9_onTree 50 = .ok (.lload_n 1, 1) := by decide +kernel
theorem dX9_onTree_51 : decode cX9_onTree 51 = .ok (.lreturn, 1) := by decide +kernel
set_option maxRecDepth 20000 in
theorem ggX9_feed_X9_in : GoodIn wsX9_feed wsX9_in := goodIn_r _ [7] (by decide +kernel) (by decide +kernel)
set_option maxRecDepth 20000 in
theorem gX9_feed_X9_in : GoodIn wsX9_feed (va_wsS RX9 110 yX9_in wsX9_in) := goodIn_app (goodIn_of _ (by decide +kernel)) ggX9_feed_X9_in
theorem dX9_feed_0 : decode cX9_feed 0 = .ok (.iload_n 2, 1) := by decide +kernel
theorem dX9_feed_1 : decode cX9_feed 1 = .ok (.i2l, 1) := by decide +kernel
theorem dX9_feed_2 : decode cX9_feed 2 = .ok (.lconst 1, 1) := by decide +kernel
theorem dX9_feed_3 : decode cX9_feed 3 = .ok (.ldc2_w 256, 3) := by decide +kernel
theorem dX9_feed_6 : decode cX9_feed 6 = .ok (.invokestatic 110, 3) := by decide +kernel
theorem dX9_feed_9 : decode cX9_feed 9 = .ok (.ifCond .ne 5, 3) := by decide +kernel
theorem dX9_feed_12 : decode cX9_feed 12 = .ok (.iconst (-1), 1) := by decide +kernel
theorem dX9_feed_13 : decode cX9_feed 13 = .ok (.ireturn, 1) := by decide +kernel
theorem dX9_feed_14 : decode cX9_feed 14 = .ok (.aload_n 0, 1) := by decide +kernel
theorem dX9_feed_15 : decode cX9_feed 15 = .ok (.getfield 258, 3) := by decide +kernel
theorem dX9_feed_18 : decode cX9_feed 18 = .ok (.iload_n 2, 1) := by decide +kernel
theorem dX9_feed_19 : decode cX9_feed 19 = .ok (.iadd, 1) := by decide +kernel
theorem dX9_feed_20 : decode cX9_feed 20 = .ok (.bipush 60, 2) := by decide +kernel
theorem dX9_feed_22 : decode cX9_feed 22 = .ok (.if_icmp .le 6, 3) := by decide +kernel
theorem dX9_feed_25 : decode cX9_feed 25 = .ok (.bipush (-3), 2) := by decide +kernel
theorem dX9_feed_27 : decode cX9_feed 27 = .ok (.ireturn, 1) := by decide +kernel
theorem dX9_feed_28 : decode cX9_feed 28 = .ok (.iload_n 2, 1) := by decide +kernel
theorem dX9_feed_29 : decode cX9_feed 29 = .ok (.iconst 1, 1) := by decide +kernel
theorem dX9_feed_30 : decode cX9_feed 30 = .ok (.isub, 1) := by decide +kernel
theorem dX9_feed_31 : decode cX9_feed 31 = .ok (.istore_n 3, 1) := by decide +kernel
theorem dX9_feed_32 : decode cX9_feed 32 = .ok (.iload_n 3, 1) := by decide +kernel
theorem dX9_feed_33 : decode cX9_feed 33 = .ok (.ifCond .lt 38, 3) := by decide +kernel
theorem dX9_feed_36 : decode cX9_feed 36 = .ok (.aload_n 0, 1) := by decide +kernel
theorem dX9_feed_37 : decode cX9_feed 37 = .ok (.getfield 44, 3) := by decide +kernel
theorem dX9_feed_40 : decode cX9_feed 40 = .ok (.aload_n 0, 1) := by decide +kernel
theorem dX9_feed_41 : decode cX9_feed 41 = .ok (.getfield 258, 3) := by decide +kernel
theorem dX9_feed_44 : decode cX9_feed 44 = .ok (.iload_n 1, 1) := by decide +kernel
theorem dX9_feed_45 : decode cX9_feed 45 = .ok (.bipush 8, 2) := by decide +kernel
theorem dX9_feed_47 : decode cX9_feed 47 = .ok (.iload_n 3, 1) := by decide +kernel
theorem dX9_feed_48 : decode cX9_feed 48 = .ok (.imul, 1) := by decide +kernel
theorem dX9_feed_49 : decode cX9_feed 49 = .ok (.iushr, 1) := by decide +kernel
theorem dX9_feed_50 : decode cX9_feed 50 = .ok (.sipush 255, 3) := by decide +kernel
theorem dX9_feed_53 : decode cX9_feed 53 = .ok (.iand, 1) := by decide +kernel
theorem dX9_feed_54 : decode cX9_feed 54 = .ok (.iastore, 1) := by decide +kernel
theorem dX9_feed_55 : decode cX9_feed 55 = .ok (.aload_n 0, 1) := by decide +kernel
theorem dX9_feed_56 : decode cX9_feed 56 = .ok (.dup, 1) := by decide +kernel
theorem dX9_feed_57 : decode cX9_feed 57 = .ok (.getfield 258, 3) := by decide +kernel
theorem dX9_feed_60 : decode cX9_feed 60 = .ok (.iconst 1, 1) := by decide +kernel
theorem dX9_feed_61 : decode cX9_feed 61 = .ok (.iadd, 1) := by decide +kernel
theorem dX9_feed_62 : decode cX9_feed 62 = .ok (.putfield 258, 3) := by decide +kernel
theorem dX9_feed_65 : decode cX9_feed 65 = .ok (.iinc 3 (-1), 3) := by decide +kernel
theorem dX9_feed_68 : decode cX9_feed 68 = .ok (.goto (-36), 3) := by decide +kernel
theorem dX9_feed_71 : decode cX9_feed 71 = .ok (.aload_n 0, 1) := by decide +kernel
theorem dX9_feed_72 : decode cX9_feed 72 = .ok (.getfield 258, 3) := by decide +kernel
theorem dX9_feed_75 : decode cX9_feed 75 = .ok (.ireturn, 1) := by decide +kernel
theorem dX9_wipe_0 : decode cX9_wipe 0 = .ok (.aload_n 0, 1) := by decide +kernel
theorem dX9_wipe_1 : decode cX9_wipe 1 = .ok (.getfield 258, 3) := by decide +kernel
theorem dX9_wipe_4 : decode cX9_wipe 4 = .ok (.istore_n 1, 1) := by decide +kernel
theorem dX9_wipe_5 : decode cX9_wipe 5 = .ok (.aload_n 0, 1) := by decide +kernel
theorem dX9_wipe_6 : decode cX9_wipe 6 = .ok (.iconst 0, 1) := by decide +kernel
theorem dX9_wipe_7 : decode cX9_wipe 7 = .ok (.putfield 258, 3) := by decide +kernel
theorem dX9_wipe_10 : decode cX9_wipe 10 = .ok (.iload_n 1, 1) := by decide +kernel
theorem dX9_wipe_11 : decode cX9_wipe 11 = .ok (.ireturn, 1) := by decide +kernel
theorem dX9_here_0 : decode cX9_here 0 = .ok (.aload_n 0, 1) := by decide +kernel
theorem dX9_here_1 : decode cX9_here 1 = .ok (.getfield 261, 3) := by decide +kernel
theorem dX9_here_4 : decode cX9_here 4 = .ok (.aload_n 0, 1) := by decide +kernel
theorem dX9_here_5 : decode cX9_here 5 = .ok (.getfield 258, 3) := by decide +kernel
theorem dX9_here_8 : decode cX9_here 8 = .ok (.if_icmp .ge 15, 3) := by decide +kernel
theorem dX9_here_11 : decode cX9_here 11 = .ok (.aload_n 0, 1) := by decide +kernel
theorem dX9_here_12 : decode cX9_here 12 = .ok (.getfield 44, 3) := by decide +kernel
theorem dX9_here_15 : decode cX9_here 15 = .ok (.aload_n 0, 1) := by decide +kernel
theorem dX9_here_16 : decode cX9_here 16 = .ok (.getfield 261, 3) := by decide +kernel
theorem dX9_here_19 : decode cX9_here 19 = .ok (.iaload, 1) := by decide +kernel
theorem dX9_here_20 : decode cX9_here 20 = .ok (.goto 4, 3) := by decide +kernel
theorem dX9_here_23 : decode cX9_here 23 = .ok (.iconst (-1), 1) := by decide +kernel
theorem dX9_here_24 : decode cX9_here 24 = .ok (.ireturn, 1) := by decide +kernel
set_option maxRecDepth 20000 in
theorem ggX9_isFigure_X9_here : GoodIn wsX9_isFigure wsX9_here := goodIn_r _ [7, 8, 9, 10, 14, 15, 16, 17, 18, 19, 20, 21, 22, 23, 24, 25, 26, 27, 28, 29, 30, 31, 32, 33, 34, 35, 36, 37, 38, 39, 40, 41, 42, 43, 44, 45, 46, 47, 48, 49, 50, 51, 52, 53, 54, 55] (by decide +kernel) (by decide +kernel)
set_option maxRecDepth 20000 in
theorem gX9_isFigure_X9_here : GoodIn wsX9_isFigure (wsV RX9 264 RX9 yX9_here wsX9_here) := goodIn_app (goodIn_of _ (by decide +kernel)) ggX9_isFigure_X9_here
set_option maxRecDepth 20000 in
theorem ggX9_isFigure_X9_in : GoodIn wsX9_isFigure wsX9_in := goodIn_r _ [13] (by decide +kernel) (by decide +kernel)
set_option maxRecDepth 20000 in
theorem gX9_isFigure_X9_in : GoodIn wsX9_isFigure (va_wsS RX9 110 yX9_in wsX9_in) := goodIn_app (goodIn_of _ (by decide +kernel)) ggX9_isFigure_X9_in
theorem dX9_isFigure_0 : decode cX9_isFigure 0 = .ok (.aload_n 0, 1) := by decide +kernel
theorem dX9_isFigure_1 : decode cX9_isFigure 1 = .ok (.invokevirtual 264, 3) := by decide +kernel
theorem dX9_isFigure_4 : decode cX9_isFigure 4 = .ok (.i2l, 1) := by decide +kernel
theorem dX9_isFigure_5 : decode cX9_isFigure 5 = .ok (.ldc2_w 267, 3) := by decide +kernel
theorem dX9_isFigure_8 : decode cX9_isFigure 8 = .ok (.ldc2_w 269, 3) := by decide +kernel
theorem dX9_isFigure_11 : decode cX9_isFigure 11 = .ok (.invokestatic 110, 3) := by decide +kernel
theorem dX9_isFigure_14 : decode cX9_isFigure 14 = .ok (.ireturn, 1) := by decide +kernel
set_option maxRecDepth 20000 in
theorem ggX9_figure_X9_isFigure : GoodIn wsX9_figure wsX9_isFigure := goodIn_r _ [8, 9, 10, 11, 12, 13, 7, 14, 2, 15, 3, 16, 17, 18, 19, 20, 21, 22, 23, 24, 25, 26, 27, 28, 29, 30, 31, 32, 33, 34, 35, 36, 37, 38, 39, 40, 41, 42, 43, 44, 45, 46, 47, 48, 49, 50, 51, 52, 53, 54, 55, 56, 57, 58, 59, 60] (by decide +kernel) (by decide +kernel)
set_option maxRecDepth 20000 in
theorem gX9_figure_X9_isFigure : GoodIn wsX9_figure (wsV RX9 275 RX9 yX9_isFigure wsX9_isFigure) := goodIn_app (goodIn_of _ (by decide +kernel)) ggX9_figure_X9_isFigure
theorem dX9_figure_0 : decode cX9_figure 0 = .ok (.aload_n 0, 1) := by decide +kernel
theorem dX9_figure_1 : decode cX9_figure 1 = .ok (.getfield 271, 3) := by decide +kernel
theorem dX9_figure_4 : decode cX9_figure 4 = .ok (.ifCond .ne 10, 3) := by decide +kernel
theorem dX9_figure_7 : decode cX9_figure 7 = .ok (.aload_n 0, 1) := by decide +kernel
theorem dX9_figure_8 : decode cX9_figure 8 = .ok (.invokevirtual 275, 3) := by decide +kernel
theorem dX9_figure_11 : decode cX9_figure 11 = .ok (.ifCond .ne 10, 3) := by decide +kernel
theorem dX9_figure_14 : decode cX9_figure 14 = .ok (.aload_n 0, 1) := by decide +kernel
theorem dX9_figure_15 : decode cX9_figure 15 = .ok (.iconst 1, 1) := by decide +kernel
theorem dX9_figure_16 : decode cX9_figure 16 = .ok (.putfield 271, 3) := by decide +kernel
theorem dX9_figure_19 : decode cX9_figure 19 = .ok (.iconst 0, 1) := by decide +kernel
theorem dX9_figure_20 : decode cX9_figure 20 = .ok (.ireturn, 1) := by decide +kernel
theorem dX9_figure_21 : decode cX9_figure 21 = .ok (.aload_n 0, 1) := by decide +kernel
theorem dX9_figure_22 : decode cX9_figure 22 = .ok (.dup, 1) := by decide +kernel
theorem dX9_figure_23 : decode cX9_figure 23 = .ok (.getfield 261, 3) := by decide +kernel
theorem dX9_figure_26 : decode cX9_figure 26 = .ok (.iconst 1, 1) := by decide +kernel
theorem dX9_figure_27 : decode cX9_figure 27 = .ok (.iadd, 1) := by decide +kernel
theorem dX9_figure_28 : decode cX9_figure 28 = .ok (.putfield 261, 3) := by decide +kernel
theorem dX9_figure_31 : decode cX9_figure 31 = .ok (.aload_n 0, 1) := by decide +kernel
theorem dX9_figure_32 : decode cX9_figure 32 = .ok (.getfield 44, 3) := by decide +kernel
theorem dX9_figure_35 : decode cX9_figure 35 = .ok (.aload_n 0, 1) := by decide +kernel
theorem dX9_figure_36 : decode cX9_figure 36 = .ok (.getfield 261, 3) := by decide +kernel
theorem dX9_figure_39 : decode cX9_figure 39 = .ok (.iconst 1, 1) := by decide +kernel
theorem dX9_figure_40 : decode cX9_figure 40 = .ok (.isub, 1) := by decide +kernel
theorem dX9_figure_41 : decode cX9_figure 41 = .ok (.iaload, 1) := by decide +kernel
theorem dX9_figure_42 : decode cX9_figure 42 = .ok (.bipush 48, 2) := by decide +kernel
theorem dX9_figure_44 : decode cX9_figure 44 = .ok (.isub, 1) := by decide +kernel
theorem dX9_figure_45 : decode cX9_figure 45 = .ok (.ireturn, 1) := by decide +kernel
set_option maxRecDepth 20000 in
theorem ggX9_must_X9_here : GoodIn wsX9_must wsX9_here := goodIn_r _ [7, 2, 8, 9, 10, 11, 12, 13, 14, 15, 16, 17, 18, 19, 20, 21, 22, 23, 24, 25, 26, 27, 28, 29, 30, 31, 32, 33, 34, 35, 36, 37, 38, 39, 40, 41, 42, 43, 44, 45, 46, 47, 48, 49, 50, 51] (by decide +kernel) (by decide +kernel)
set_option maxRecDepth 20000 in
theorem gX9_must_X9_here : GoodIn wsX9_must (wsV RX9 264 RX9 yX9_here wsX9_here) := goodIn_app (goodIn_of _ (by decide +kernel)) ggX9_must_X9_here
theorem dX9_must_0 : decode cX9_must 0 = .ok (.aload_n 0, 1) := by decide +kernel
theorem dX9_must_1 : decode cX9_must 1 = .ok (.aload_n 0, 1) := by decide +kernel
theorem dX9_must_2 : decode cX9_must 2 = .ok (.getfield 271, 3) := by decide +kernel
theorem dX9_must_5 : decode cX9_must 5 = .ok (.ifCond .ne 11, 3) := by decide +kernel
theorem dX9_must_8 : decode cX9_must 8 = .ok (.aload_n 0, 1) := by decide +kernel
theorem dX9_must_9 : decode cX9_must 9 = .ok (.invokevirtual 264, 3) := by decide +kernel
theorem dX9_must_12 : decode cX9_must 12 = .ok (.iload_n 1, 1) := by decide +kernel
theorem dX9_must_13 : decode cX9_must 13 = .ok (.if_icmp .eq 7, 3) := by decide +kernel
theorem dX9_must_16 : decode cX9_must 16 = .ok (.iconst 1, 1) := by decide +kernel
theorem dX9_must_17 : decode cX9_must 17 = .ok (.goto 4, 3) := by decide +kernel
theorem dX9_must_20 : decode cX9_must 20 = .ok (.iconst 0, 1) := by decide +kernel
theorem dX9_must_21 : decode cX9_must 21 = .ok (.putfield 271, 3) := by decide +kernel
theorem dX9_must_24 : decode cX9_must 24 = .ok (.aload_n 0, 1) := by decide +kernel
theorem dX9_must_25 : decode cX9_must 25 = .ok (.dup, 1) := by decide +kernel
theorem dX9_must_26 : decode cX9_must 26 = .ok (.getfield 261, 3) := by decide +kernel
theorem dX9_must_29 : decode cX9_must 29 = .ok (.aload_n 0, 1) := by decide +kernel
theorem dX9_must_30 : decode cX9_must 30 = .ok (.getfield 271, 3) := by decide +kernel
theorem dX9_must_33 : decode cX9_must 33 = .ok (.ifCond .eq 7, 3) := by decide +kernel
theorem dX9_must_36 : decode cX9_must 36 = .ok (.iconst 0, 1) := by decide +kernel
theorem dX9_must_37 : decode cX9_must 37 = .ok (.goto 4, 3) := by decide +kernel
theorem dX9_must_40 : decode cX9_must 40 = .ok (.iconst 1, 1) := by decide +kernel
theorem dX9_must_41 : decode cX9_must 41 = .ok (.iadd, 1) := by decide +kernel
theorem dX9_must_42 : decode cX9_must 42 = .ok (.putfield 261, 3) := by decide +kernel
theorem dX9_must_45 : decode cX9_must 45 = .ok (.return_, 1) := by decide +kernel
set_option maxRecDepth 20000 in
theorem ggX9_markHere_X9_figure : GoodIn wsX9_markHere wsX9_figure := goodIn_r _ [10, 4, 3, 11, 12, 13, 14, 9, 15, 16, 17, 18, 19, 20, 21, 22, 23, 24, 25, 26, 27, 28, 29, 30, 31, 32, 33, 34, 35, 36, 37, 38, 39, 40, 41, 42, 43, 44, 45, 46, 47, 48, 49, 50, 51, 52, 53, 54, 55, 56, 57, 58, 59, 60, 61, 62, 63, 64, 65, 66, 67] (by decide +kernel) (by decide +kernel)
set_option maxRecDepth 20000 in
theorem gX9_markHere_X9_figure : GoodIn wsX9_markHere (wsV RX9 282 RX9 yX9_figure wsX9_figure) := goodIn_app (goodIn_of _ (by decide +kernel)) ggX9_markHere_X9_figure
set_option maxRecDepth 20000 in
theorem ggX9_markHere_X9_isFigure : GoodIn wsX9_markHere wsX9_isFigure := goodIn_r _ [15, 16, 17, 18, 19, 20, 9, 21, 3, 22, 11, 23, 24, 25, 26, 27, 28, 29, 30, 31, 32, 33, 34, 35, 36, 37, 38, 39, 40, 41, 42, 43, 44, 45, 46, 47, 48, 49, 50, 51, 52, 53, 54, 55, 56, 57, 58, 59, 60, 61, 62, 63, 64, 65, 66, 67] (by decide +kernel) (by decide +kernel)
set_option maxRecDepth 20000 in
theorem gX9_markHere_X9_isFigure : GoodIn wsX9_markHere (wsV RX9 275 RX9 yX9_isFigure wsX9_isFigure) := goodIn_app (goodIn_of _ (by decide +kernel)) ggX9_markHere_X9_isFigure
theorem dX9_markHere_0 : decode cX9_markHere 0 = .ok (.aload_n 0, 1) := by decide +kernel
theorem dX9_markHere_1 : decode cX9_markHere 1 = .ok (.getfield 50, 3) := by decide +kernel
theorem dX9_markHere_4 : decode cX9_markHere 4 = .ok (.aload_n 0, 1) := by decide +kernel
theorem dX9_markHere_5 : decode cX9_markHere 5 = .ok (.getfield 279, 3) := by decide +kernel
theorem dX9_markHere_8 : decode cX9_markHere 8 = .ok (.aload_n 0, 1) := by decide +kernel
theorem dX9_markHere_9 : decode cX9_markHere 9 = .ok (.getfield 261, 3) := by decide +kernel
theorem dX9_markHere_12 : decode cX9_markHere 12 = .ok (.iastore, 1) := by decide +kernel
theorem dX9_markHere_13 : decode cX9_markHere 13 = .ok (.aload_n 0, 1) := by decide +kernel
theorem dX9_markHere_14 : decode cX9_markHere 14 = .ok (.invokevirtual 282, 3) := by decide +kernel
theorem dX9_markHere_17 : decode cX9_markHere 17 = .ok (.istore_n 1, 1) := by decide +kernel
theorem dX9_markHere_18 : decode cX9_markHere 18 = .ok (.aload_n 0, 1) := by decide +kernel
theorem dX9_markHere_19 : decode cX9_markHere 19 = .ok (.getfield 271, 3) := by decide +kernel
theorem dX9_markHere_22 : decode cX9_markHere 22 = .ok (.ifCond .ne 20, 3) := by decide +kernel
theorem dX9_markHere_25 : decode cX9_markHere 25 = .ok (.aload_n 0, 1) := by decide +kernel
theorem dX9_markHere_26 : decode cX9_markHere 26 = .ok (.invokevirtual 275, 3) := by decide +kernel
theorem dX9_markHere_29 : decode cX9_markHere 29 = .ok (.ifCond .eq 13, 3) := by decide +kernel
theorem dX9_markHere_32 : decode cX9_markHere 32 = .ok (.bipush 10, 2) := by decide +kernel
theorem dX9_markHere_34 : decode cX9_markHere 34 = .ok (.iload_n 1, 1) := by decide +kernel
theorem dX9_markHere_35 : decode cX9_markHere 35 = .ok (.imul, 1) := by decide +kernel
theorem dX9_markHere_36 : decode cX9_markHere 36 = .ok (.aload_n 0, 1) := by decide +kernel
theorem dX9_markHere_37 : decode cX9_markHere 37 = .ok (.invokevirtual 282, 3) := by decide +kernel
theorem dX9_markHere_40 : decode cX9_markHere 40 = .ok (.iadd, 1) := by decide +kernel
theorem dX9_markHere_41 : decode cX9_markHere 41 = .ok (.istore_n 1, 1) := by decide +kernel
theorem dX9_markHere_42 : decode cX9_markHere 42 = .ok (.aload_n 0, 1) := by decide +kernel
theorem dX9_markHere_43 : decode cX9_markHere 43 = .ok (.getfield 47, 3) := by decide +kernel
theorem dX9_markHere_46 : decode cX9_markHere 46 = .ok (.aload_n 0, 1) := by decide +kernel
theorem dX9_markHere_47 : decode cX9_markHere 47 = .ok (.getfield 279, 3) := by decide +kernel
theorem dX9_markHere_50 : decode cX9_markHere 50 = .ok (.iload_n 1, 1) := by decide +kernel
theorem dX9_markHere_51 : decode cX9_markHere 51 = .ok (.iastore, 1) := by decide +kernel
theorem dX9_markHere_52 : decode cX9_markHere 52 = .ok (.aload_n 0, 1) := by decide +kernel
theorem dX9_markHere_53 : decode cX9_markHere 53 = .ok (.dup, 1) := by decide +kernel
theorem dX9_markHere_54 : decode cX9_markHere 54 = .ok (.getfield 279, 3) := by decide +kernel
theorem dX9_markHere_57 : decode cX9_markHere 57 = .ok (.iconst 1, 1) := by decide +kernel
theorem dX9_markHere_58 : decode cX9_markHere 58 = .ok (.iadd, 1) := by decide +kernel
theorem dX9_markHere_59 : decode cX9_markHere 59 = .ok (.putfield 279, 3) := by decide +kernel
theorem dX9_markHere_62 : decode cX9_markHere 62 = .ok (.return_, 1) := by decide +kernel
set_option maxRecDepth 20000 in
theorem ggX9_splitHere_X9_isFigure : GoodIn wsX9_splitHere wsX9_isFigure := goodIn_r _ [10, 11, 12, 13, 14, 15, 9, 16, 3, 17, 18, 19, 20, 21, 26, 27, 28, 29, 30, 31, 32, 33, 34, 35, 36, 37, 38, 39, 40, 41, 42, 43, 44, 45, 46, 47, 48, 49, 50, 51, 52, 53, 54, 55, 56, 57, 58, 59, 60, 61, 62, 63, 64, 65, 66, 67] (by decide +kernel) (by decide +kernel)
set_option maxRecDepth 20000 in
theorem gX9_splitHere_X9_isFigure : GoodIn wsX9_splitHere (wsV RX9 275 RX9 yX9_isFigure wsX9_isFigure) := goodIn_app (goodIn_of _ (by decide +kernel)) ggX9_splitHere_X9_isFigure
set_option maxRecDepth 20000 in
theorem ggX9_splitHere_X9_here : GoodIn wsX9_splitHere wsX9_here := goodIn_r _ [16, 3, 17, 18, 26, 27, 28, 29, 30, 31, 32, 33, 34, 35, 36, 37, 38, 39, 40, 41, 42, 43, 44, 45, 46, 47, 48, 49, 50, 51, 52, 53, 54, 55, 56, 57, 58, 59, 60, 61, 62, 63, 64, 65, 66, 67] (by decide +kernel) (by decide +kernel)
set_option maxRecDepth 20000 in
theorem gX9_splitHere_X9_here : GoodIn wsX9_splitHere (wsV RX9 264 RX9 yX9_here wsX9_here) := goodIn_app (goodIn_of _ (by decide +kernel)) ggX9_splitHere_X9_here
set_option maxRecDepth 20000 in
theorem ggX9_splitHere_X9_figure : GoodIn wsX9_splitHere wsX9_figure := goodIn_r _ [25, 4, 3, 18, 6, 7, 8, 9, 10, 11, 12, 13, 14, 15, 16, 17, 19, 20, 21, 26, 27, 28, 29, 30, 31, 32, 33, 34, 35, 36, 37, 38, 39, 40, 41, 42, 43, 44, 45, 46, 47, 48, 49, 50, 51, 52, 53, 54, 55, 56, 57, 58, 59, 60, 61, 62, 63, 64, 65, 66, 67] (by decide +kernel) (by decide +kernel)
set_option maxRecDepth 20000 in
theorem gX9_splitHere_X9_figure : GoodIn wsX9_splitHere (wsV RX9 282 RX9 yX9_figure wsX9_figure) := goodIn_app (goodIn_of _ (by decide +kernel)) ggX9_splitHere_X9_figure
theorem dX9_splitHere_0 : decode cX9_splitHere 0 = .ok (.aload_n 0, 1) := by decide +kernel
theorem dX9_splitHere_1 : decode cX9_splitHere 1 = .ok (.getfield 56, 3) := by decide +kernel
theorem dX9_splitHere_4 : decode cX9_splitHere 4 = .ok (.aload_n 0, 1) := by decide +kernel
theorem dX9_splitHere_5 : decode cX9_splitHere 5 = .ok (.getfield 285, 3) := by decide +kernel
theorem dX9_splitHere_8 : decode cX9_splitHere 8 = .ok (.aload_n 0, 1) := by decide +kernel
theorem dX9_splitHere_9 : decode cX9_splitHere 9 = .ok (.getfield 261, 3) := by decide +kernel
theorem dX9_splitHere_12 : decode cX9_splitHere 12 = .ok (.iastore, 1) := by decide +kernel
theorem dX9_splitHere_13 : decode cX9_splitHere 13 = .ok (.iconst 0, 1) := by decide +kernel
theorem dX9_splitHere_14 : decode cX9_splitHere 14 = .ok (.istore_n 1, 1) := by decide +kernel
theorem dX9_splitHere_15 : decode cX9_splitHere 15 = .ok (.iconst (-1), 1) := by decide +kernel
theorem dX9_splitHere_16 : decode cX9_splitHere 16 = .ok (.istore_n 2, 1) := by decide +kernel
theorem dX9_splitHere_17 : decode cX9_splitHere 17 = .ok (.iconst 0, 1) := by decide +kernel
theorem dX9_splitHere_18 : decode cX9_splitHere 18 = .ok (.istore_n 3, 1) := by decide +kernel
theorem dX9_splitHere_19 : decode cX9_splitHere 19 = .ok (.iload_n 3, 1) := by decide +kernel
theorem dX9_splitHere_20 : decode cX9_splitHere 20 = .ok (.iconst 4, 1) := by decide +kernel
theorem dX9_splitHere_21 : decode cX9_splitHere 21 = .ok (.if_icmp .ge 65, 3) := by decide +kernel
theorem dX9_splitHere_24 : decode cX9_splitHere 24 = .ok (.aload_n 0, 1) := by decide +kernel
theorem dX9_splitHere_25 : decode cX9_splitHere 25 = .ok (.getfield 271, 3) := by decide +kernel
theorem dX9_splitHere_28 : decode cX9_splitHere 28 = .ok (.ifCond .ne 58, 3) := by decide +kernel
theorem dX9_splitHere_31 : decode cX9_splitHere 31 = .ok (.iload_n 3, 1) := by decide +kernel
theorem dX9_splitHere_32 : decode cX9_splitHere 32 = .ok (.iconst 1, 1) := by decide +kernel
theorem dX9_splitHere_33 : decode cX9_splitHere 33 = .ok (.if_icmp .le 13, 3) := by decide +kernel
theorem dX9_splitHere_36 : decode cX9_splitHere 36 = .ok (.aload_n 0, 1) := by decide +kernel
theorem dX9_splitHere_37 : decode cX9_splitHere 37 = .ok (.invokevirtual 275, 3) := by decide +kernel
theorem dX9_splitHere_40 : decode cX9_splitHere 40 = .ok (.ifCond .ne 6, 3) := by decide +kernel
theorem dX9_splitHere_43 : decode cX9_splitHere 43 = .ok (.goto 43, 3) := by decide +kernel
theorem dX9_splitHere_46 : decode cX9_splitHere 46 = .ok (.aload_n 0, 1) := by decide +kernel
theorem dX9_splitHere_47 : decode cX9_splitHere 47 = .ok (.invokevirtual 275, 3) := by decide +kernel
theorem dX9_splitHere_50 : decode cX9_splitHere 50 = .ok (.ifCond .eq 19, 3) := by decide +kernel
theorem dX9_splitHere_53 : decode cX9_splitHere 53 = .ok (.aload_n 0, 1) := by decide +kernel
theorem dX9_splitHere_54 : decode cX9_splitHere 54 = .ok (.invokevirtual 264, 3) := by decide +kernel
theorem dX9_splitHere_57 : decode cX9_splitHere 57 = .ok (.bipush 48, 2) := by decide +kernel
theorem dX9_splitHere_59 : decode cX9_splitHere 59 = .ok (.isub, 1) := by decide +kernel
theorem dX9_splitHere_60 : decode cX9_splitHere 60 = .ok (.iload_n 2, 1) := by decide +kernel
theorem dX9_splitHere_61 : decode cX9_splitHere 61 = .ok (.if_icmp .gt 8, 3) := by decide +kernel
theorem dX9_splitHere_64 : decode cX9_splitHere 64 = .ok (.aload_n 0, 1) := by decide +kernel
theorem dX9_splitHere_65 : decode cX9_splitHere 65 = .ok (.iconst 1, 1) := by decide +kernel
theorem dX9_splitHere_66 : decode cX9_splitHere 66 = .ok (.putfield 271, 3) := by decide +kernel
theorem dX9_splitHere_69 : decode cX9_splitHere 69 = .ok (.aload_n 0, 1) := by decide +kernel
theorem dX9_splitHere_70 : decode cX9_splitHere 70 = .ok (.invokevirtual 282, 3) := by decide +kernel
theorem dX9_splitHere_73 : decode cX9_splitHere 73 = .ok (.istore_n 2, 1) := by decide +kernel
theorem dX9_splitHere_74 : decode cX9_splitHere 74 = .ok (.iload_n 1, 1) := by decide +kernel
theorem dX9_splitHere_75 : decode cX9_splitHere 75 = .ok (.iconst 1, 1) := by decide +kernel
theorem dX9_splitHere_76 : decode cX9_splitHere 76 = .ok (.iload_n 2, 1) := by decide +kernel
theorem dX9_splitHere_77 : decode cX9_splitHere 77 = .ok (.ishl, 1) := by decide +kernel
theorem dX9_splitHere_78 : decode cX9_splitHere 78 = .ok (.ior, 1) := by decide +kernel
theorem dX9_splitHere_79 : decode cX9_splitHere 79 = .ok (.istore_n 1, 1) := by decide +kernel
theorem dX9_splitHere_80 : decode cX9_splitHere 80 = .ok (.iinc 3 1, 3) := by decide +kernel
theorem dX9_splitHere_83 : decode cX9_splitHere 83 = .ok (.goto (-64), 3) := by decide +kernel
theorem dX9_splitHere_86 : decode cX9_splitHere 86 = .ok (.aload_n 0, 1) := by decide +kernel
theorem dX9_splitHere_87 : decode cX9_splitHere 87 = .ok (.getfield 53, 3) := by decide +kernel
theorem dX9_splitHere_90 : decode cX9_splitHere 90 = .ok (.aload_n 0, 1) := by decide +kernel
theorem dX9_splitHere_91 : decode cX9_splitHere 91 = .ok (.getfield 285, 3) := by decide +kernel
theorem dX9_splitHere_94 : decode cX9_splitHere 94 = .ok (.iload_n 1, 1) := by decide +kernel
theorem dX9_splitHere_95 : decode cX9_splitHere 95 = .ok (.iastore, 1) := by decide +kernel
theorem dX9_splitHere_96 : decode cX9_splitHere 96 = .ok (.aload_n 0, 1) := by decide +kernel
theorem dX9_splitHere_97 : decode cX9_splitHere 97 = .ok (.dup, 1) := by decide +kernel
theorem dX9_splitHere_98 : decode cX9_splitHere 98 = .ok (.getfield 285, 3) := by decide +kernel
theorem dX9_splitHere_101 : decode cX9_splitHere 101 = .ok (.iconst 1, 1) := by decide +kernel
theorem dX9_splitHere_102 : decode cX9_splitHere 102 = .ok (.iadd, 1) := by decide +kernel
theorem dX9_splitHere_103 : decode cX9_splitHere 103 = .ok (.putfield 285, 3) := by decide +kernel
theorem dX9_splitHere_106 : decode cX9_splitHere 106 = .ok (.return_, 1) := by decide +kernel
set_option maxRecDepth 20000 in
theorem ggX9_form_X9_figure : GoodIn wsX9_form wsX9_figure := goodIn_r _ [14, 2, 1, 15, 16, 17, 18, 13, 19, 20, 21, 22, 23, 24, 25, 9, 26, 27, 28, 45, 46, 47, 48, 49, 50, 51, 52, 53, 54, 55, 56, 57, 58, 59, 60, 61, 62, 63, 64, 65, 66, 67, 68, 69, 70, 71, 72, 73, 74, 75, 76, 77, 78, 79, 80, 81, 82, 83, 84, 85, 86] (by decide +kernel) (by decide +kernel)
set_option maxRecDepth 20000 in
theorem gX9_form_X9_figure : GoodIn wsX9_form (wsV RX9 282 RX9 yX9_figure wsX9_figure) := goodIn_app (goodIn_of _ (by decide +kernel)) ggX9_form_X9_figure
set_option maxRecDepth 20000 in
theorem ggX9_form_X9_must : GoodIn wsX9_form wsX9_must := goodIn_r _ [32, 2, 1, 22, 23, 24, 13, 25, 9, 15, 45, 46, 47, 48, 49, 50, 51, 52, 53, 54, 55, 56, 57, 58, 59, 60, 61, 62, 63, 64, 65, 66, 67, 68, 69, 70, 71, 72, 73, 74, 75, 76, 77, 78, 79, 80, 81, 82, 83, 84, 85, 86] (by decide +kernel) (by decide +kernel)
set_option maxRecDepth 20000 in
theorem gX9_form_X9_must : GoodIn wsX9_form (wsV RX9 294 RX9 yX9_must wsX9_must) := goodIn_app (goodIn_of _ (by decide +kernel)) ggX9_form_X9_must
set_option maxRecDepth 20000 in
theorem ggX9_form_X9_isFigure : GoodIn wsX9_form wsX9_isFigure := goodIn_r _ [19, 20, 21, 22, 23, 24, 13, 25, 1, 9, 15, 26, 27, 28, 45, 46, 47, 48, 49, 50, 51, 52, 53, 54, 55, 56, 57, 58, 59, 60, 61, 62, 63, 64, 65, 66, 67, 68, 69, 70, 71, 72, 73, 74, 75, 76, 77, 78, 79, 80, 81, 82, 83, 84, 85, 86] (by decide +kernel) (by decide +kernel)
set_option maxRecDepth 20000 in
theorem gX9_form_X9_isFigure : GoodIn wsX9_form (wsV RX9 275 RX9 yX9_isFigure wsX9_isFigure) := goodIn_app (goodIn_of _ (by decide +kernel)) ggX9_form_X9_isFigure
set_option maxRecDepth 20000 in
theorem ggX9_form_X9_markHere : GoodIn wsX9_form wsX9_markHere := goodIn_r _ [36, 37, 3, 1, 2, 38, 10, 11, 12, 13, 14, 15, 16, 17, 18, 19, 20, 21, 22, 23, 24, 25, 9, 26, 27, 28, 45, 46, 47, 48, 49, 50, 51, 52, 53, 54, 55, 56, 57, 58, 59, 60, 61, 62, 63, 64, 65, 66, 67, 68, 69, 70, 71, 72, 73, 74, 75, 76, 77, 78, 79, 80, 81, 82, 83, 84, 85, 86] (by decide +kernel) (by decide +kernel)
set_option maxRecDepth 20000 in
theorem gX9_form_X9_markHere : GoodIn wsX9_form (wsV RX9 297 RX9 yX9_markHere wsX9_markHere) := goodIn_app (goodIn_of _ (by decide +kernel)) ggX9_form_X9_markHere
set_option maxRecDepth 20000 in
theorem ggX9_form_X9_here : GoodIn wsX9_form wsX9_here := goodIn_r _ [25, 1, 9, 15, 45, 46, 47, 48, 49, 50, 51, 52, 53, 54, 55, 56, 57, 58, 59, 60, 61, 62, 63, 64, 65, 66, 67, 68, 69, 70, 71, 72, 73, 74, 75, 76, 77, 78, 79, 80, 81, 82, 83, 84, 85, 86] (by decide +kernel) (by decide +kernel)
set_option maxRecDepth 20000 in
theorem gX9_form_X9_here : GoodIn wsX9_form (wsV RX9 264 RX9 yX9_here wsX9_here) := goodIn_app (goodIn_of _ (by decide +kernel)) ggX9_form_X9_here
set_option maxRecDepth 20000 in
theorem ggX9_form_X9_splitHere : GoodIn wsX9_form wsX9_splitHere := goodIn_r _ [42, 43, 4, 1, 2, 44, 16, 17, 18, 13, 19, 20, 21, 22, 23, 24, 25, 9, 15, 26, 27, 28, 10, 11, 12, 14, 45, 46, 47, 48, 49, 50, 51, 52, 53, 54, 55, 56, 57, 58, 59, 60, 61, 62, 63, 64, 65, 66, 67, 68, 69, 70, 71, 72, 73, 74, 75, 76, 77, 78, 79, 80, 81, 82, 83, 84, 85, 86] (by decide +kernel) (by decide +kernel)
set_option maxRecDepth 20000 in
theorem gX9_form_X9_splitHere : GoodIn wsX9_form (wsV RX9 306 RX9 yX9_splitHere wsX9_splitHere) := goodIn_app (goodIn_of _ (by decide +kernel)) ggX9_form_X9_splitHere
theorem dX9_form_0 : decode cX9_form 0 = .ok (.aload_n 0, 1) := by decide +kernel
theorem dX9_form_1 : decode cX9_form 1 = .ok (.iconst 0, 1) := by decide +kernel
theorem dX9_form_2 : decode cX9_form 2 = .ok (.putfield 261, 3) := by decide +kernel
theorem dX9_form_5 : decode cX9_form 5 = .ok (.aload_n 0, 1) := by decide +kernel
theorem dX9_form_6 : decode cX9_form 6 = .ok (.iconst 0, 1) := by decide +kernel
theorem dX9_form_7 : decode cX9_form 7 = .ok (.putfield 271, 3) := by decide +kernel
theorem dX9_form_10 : decode cX9_form 10 = .ok (.aload_n 0, 1) := by decide +kernel
theorem dX9_form_11 : decode cX9_form 11 = .ok (.iconst 0, 1) := by decide +kernel
theorem dX9_form_12 : decode cX9_form 12 = .ok (.putfield 279, 3) := by decide +kernel
theorem dX9_form_15 : decode cX9_form 15 = .ok (.aload_n 0, 1) := by decide +kernel
theorem dX9_form_16 : decode cX9_form 16 = .ok (.iconst 0, 1) := by decide +kernel
theorem dX9_form_17 : decode cX9_form 17 = .ok (.putfield 285, 3) := by decide +kernel
theorem dX9_form_20 : decode cX9_form 20 = .ok (.aload_n 0, 1) := by decide +kernel
theorem dX9_form_21 : decode cX9_form 21 = .ok (.iconst 0, 1) := by decide +kernel
theorem dX9_form_22 : decode cX9_form 22 = .ok (.putfield 288, 3) := by decide +kernel
theorem dX9_form_25 : decode cX9_form 25 = .ok (.aload_n 0, 1) := by decide +kernel
theorem dX9_form_26 : decode cX9_form 26 = .ok (.aload_n 0, 1) := by decide +kernel
theorem dX9_form_27 : decode cX9_form 27 = .ok (.invokevirtual 282, 3) := by decide +kernel
theorem dX9_form_30 : decode cX9_form 30 = .ok (.putfield 291, 3) := by decide +kernel
theorem dX9_form_33 : decode cX9_form 33 = .ok (.aload_n 0, 1) := by decide +kernel
theorem dX9_form_34 : decode cX9_form 34 = .ok (.bipush 58, 2) := by decide +kernel
theorem dX9_form_36 : decode cX9_form 36 = .ok (.invokevirtual 294, 3) := by decide +kernel
theorem dX9_form_39 : decode cX9_form 39 = .ok (.aload_n 0, 1) := by decide +kernel
theorem dX9_form_40 : decode cX9_form 40 = .ok (.getfield 271, 3) := by decide +kernel
theorem dX9_form_43 : decode cX9_form 43 = .ok (.ifCond .ne 56, 3) := by decide +kernel
theorem dX9_form_46 : decode cX9_form 46 = .ok (.aload_n 0, 1) := by decide +kernel
theorem dX9_form_47 : decode cX9_form 47 = .ok (.invokevirtual 275, 3) := by decide +kernel
theorem dX9_form_50 : decode cX9_form 50 = .ok (.ifCond .eq 49, 3) := by decide +kernel
theorem dX9_form_53 : decode cX9_form 53 = .ok (.aload_n 0, 1) := by decide +kernel
theorem dX9_form_54 : decode cX9_form 54 = .ok (.invokevirtual 297, 3) := by decide +kernel
theorem dX9_form_57 : decode cX9_form 57 = .ok (.aload_n 0, 1) := by decide +kernel
theorem dX9_form_58 : decode cX9_form 58 = .ok (.getfield 271, 3) := by decide +kernel
theorem dX9_form_61 : decode cX9_form 61 = .ok (.ifCond .ne 38, 3) := by decide +kernel
theorem dX9_form_64 : decode cX9_form 64 = .ok (.aload_n 0, 1) := by decide +kernel
theorem dX9_form_65 : decode cX9_form 65 = .ok (.invokevirtual 264, 3) := by decide +kernel
theorem dX9_form_68 : decode cX9_form 68 = .ok (.bipush 44, 2) := by decide +kernel
theorem dX9_form_70 : decode cX9_form 70 = .ok (.if_icmp .ne 29, 3) := by decide +kernel
theorem dX9_form_73 : decode cX9_form 73 = .ok (.aload_n 0, 1) := by decide +kernel
theorem dX9_form_74 : decode cX9_form 74 = .ok (.getfield 279, 3) := by decide +kernel
theorem dX9_form_77 : decode cX9_form 77 = .ok (.bipush 8, 2) := by decide +kernel
theorem dX9_form_79 : decode cX9_form 79 = .ok (.if_icmp .ge 20, 3) := by decide +kernel
theorem dX9_form_82 : decode cX9_form 82 = .ok (.aload_n 0, 1) := by decide +kernel
theorem dX9_form_83 : decode cX9_form 83 = .ok (.dup, 1) := by decide +kernel
theorem dX9_form_84 : decode cX9_form 84 = .ok (.getfield 261, 3) := by decide +kernel
theorem dX9_form_87 : decode cX9_form 87 = .ok (.iconst 1, 1) := by decide +kernel
theorem dX9_form_88 : decode cX9_form 88 = .ok (.iadd, 1) := by decide +kernel
theorem dX9_form_89 : decode cX9_form 89 = .ok (.putfield 261, 3) := by decide +kernel
theorem dX9_form_92 : decode cX9_form 92 = .ok (.aload_n 0, 1) := by decide +kernel
theorem dX9_form_93 : decode cX9_form 93 = .ok (.invokevirtual 297, 3) := by decide +kernel
theorem dX9_form_96 : decode cX9_form 96 = .ok (.goto (-39), 3) := by decide +kernel
theorem dX9_form_99 : decode cX9_form 99 = .ok (.aload_n 0, 1) := by decide +kernel
theorem dX9_form_100 : decode cX9_form 100 = .ok (.getfield 271, 3) := by decide +kernel
theorem dX9_form_103 : decode cX9_form 103 = .ok (.ifCond .ne 84, 3) := by decide +kernel
theorem dX9_form_106 : decode cX9_form 106 = .ok (.aload_n 0, 1) := by decide +kernel
theorem dX9_form_107 : decode cX9_form 107 = .ok (.invokevirtual 264, 3) := by decide +kernel
theorem dX9_form_110 : decode cX9_form 110 = .ok (.bipush 47, 2) := by decide +kernel
theorem dX9_form_112 : decode cX9_form 112 = .ok (.if_icmp .ne 75, 3) := by decide +kernel
theorem dX9_form_115 : decode cX9_form 115 = .ok (.aload_n 0, 1) := by decide +kernel
theorem dX9_form_116 : decode cX9_form 116 = .ok (.dup, 1) := by decide +kernel
theorem dX9_form_117 : decode cX9_form 117 = .ok (.getfield 261, 3) := by decide +kernel
theorem dX9_form_120 : decode cX9_form 120 = .ok (.iconst 1, 1) := by decide +kernel
theorem dX9_form_121 : decode cX9_form 121 = .ok (.iadd, 1) := by decide +kernel
theorem dX9_form_122 : decode cX9_form 122 = .ok (.putfield 261, 3) := by decide +kernel
theorem dX9_form_125 : decode cX9_form 125 = .ok (.aload_n 0, 1) := by decide +kernel
theorem dX9_form_126 : decode cX9_form 126 = .ok (.iconst 1, 1) := by decide +kernel
theorem dX9_form_127 : decode cX9_form 127 = .ok (.putfield 288, 3) := by decide +kernel
theorem dX9_form_130 : decode cX9_form 130 = .ok (.aload_n 0, 1) := by decide +kernel
theorem dX9_form_131 : decode cX9_form 131 = .ok (.aload_n 0, 1) := by decide +kernel
theorem dX9_form_132 : decode cX9_form 132 = .ok (.getfield 261, 3) := by decide +kernel
theorem dX9_form_135 : decode cX9_form 135 = .ok (.putfield 300, 3) := by decide +kernel
theorem dX9_form_138 : decode cX9_form 138 = .ok (.aload_n 0, 1) := by decide +kernel
theorem dX9_form_139 : decode cX9_form 139 = .ok (.aload_n 0, 1) := by decide +kernel
theorem dX9_form_140 : decode cX9_form 140 = .ok (.invokevirtual 282, 3) := by decide +kernel
theorem dX9_form_143 : decode cX9_form 143 = .ok (.putfield 303, 3) := by decide +kernel
theorem dX9_form_146 : decode cX9_form 146 = .ok (.aload_n 0, 1) := by decide +kernel
theorem dX9_form_147 : decode cX9_form 147 = .ok (.getfield 271, 3) := by decide +kernel
theorem dX9_form_150 : decode cX9_form 150 = .ok (.ifCond .ne 37, 3) := by decide +kernel
theorem dX9_form_153 : decode cX9_form 153 = .ok (.aload_n 0, 1) := by decide +kernel
theorem dX9_form_154 : decode cX9_form 154 = .ok (.invokevirtual 264, 3) := by decide +kernel
theorem dX9_form_157 : decode cX9_form 157 = .ok (.bipush 59, 2) := by decide +kernel
theorem dX9_form_159 : decode cX9_form 159 = .ok (.if_icmp .ne 28, 3) := by decide +kernel
theorem dX9_form_162 : decode cX9_form 162 = .ok (.aload_n 0, 1) := by decide +kernel
theorem dX9_form_163 : decode cX9_form 163 = .ok (.getfield 285, 3) := by decide +kernel
theorem dX9_form_166 : decode cX9_form 166 = .ok (.iconst 3, 1) := by decide +kernel
theorem dX9_form_167 : decode cX9_form 167 = .ok (.if_icmp .ge 20, 3) := by decide +kernel
theorem dX9_form_170 : decode cX9_form 170 = .ok (.aload_n 0, 1) := by decide +kernel
theorem dX9_form_171 : decode cX9_form 171 = .ok (.dup, 1) := by decide +kernel
theorem dX9_form_172 : decode cX9_form 172 = .ok (.getfield 261, 3) := by decide +kernel
theorem dX9_form_175 : decode cX9_form 175 = .ok (.iconst 1, 1) := by decide +kernel
theorem dX9_form_176 : decode cX9_form 176 = .ok (.iadd, 1) := by decide +kernel
theorem dX9_form_177 : decode cX9_form 177 = .ok (.putfield 261, 3) := by decide +kernel
theorem dX9_form_180 : decode cX9_form 180 = .ok (.aload_n 0, 1) := by decide +kernel
theorem dX9_form_181 : decode cX9_form 181 = .ok (.invokevirtual 306, 3) := by decide +kernel
theorem dX9_form_184 : decode cX9_form 184 = .ok (.goto (-38), 3) := by decide +kernel
theorem dX9_form_187 : decode cX9_form 187 = .ok (.aload_n 0, 1) := by decide +kernel
theorem dX9_form_188 : decode cX9_form 188 = .ok (.aload_n 0, 1) := by decide +kernel
theorem dX9_form_189 : decode cX9_form 189 = .ok (.getfield 271, 3) := by decide +kernel
theorem dX9_form_192 : decode cX9_form 192 = .ok (.ifCond .ne 14, 3) := by decide +kernel
theorem dX9_form_195 : decode cX9_form 195 = .ok (.aload_n 0, 1) := by decide +kernel
theorem dX9_form_196 : decode cX9_form 196 = .ok (.getfield 261, 3) := by decide +kernel
theorem dX9_form_199 : decode cX9_form 199 = .ok (.aload_n 0, 1) := by decide +kernel
theorem dX9_form_200 : decode cX9_form 200 = .ok (.getfield 258, 3) := by decide +kernel
theorem dX9_form_203 : decode cX9_form 203 = .ok (.if_icmp .ge 7, 3) := by decide +kernel
theorem dX9_form_206 : decode cX9_form 206 = .ok (.iconst 1, 1) := by decide +kernel
theorem dX9_form_207 : decode cX9_form 207 = .ok (.goto 4, 3) := by decide +kernel
theorem dX9_form_210 : decode cX9_form 210 = .ok (.iconst 0, 1) := by decide +kernel
theorem dX9_form_211 : decode cX9_form 211 = .ok (.putfield 271, 3) := by decide +kernel
theorem dX9_form_214 : decode cX9_form 214 = .ok (.return_, 1) := by decide +kernel
set_option maxRecDepth 20000 in
theorem ggX9_wrongFigures_X9_in : GoodIn wsX9_wrongFigures wsX9_in := goodIn_r _ [16] (by decide +kernel) (by decide +kernel)
set_option maxRecDepth 20000 in
theorem gX9_wrongFigures_X9_in : GoodIn wsX9_wrongFigures (va_wsS RX9 110 yX9_in wsX9_in) := goodIn_app (goodIn_of _ (by decide +kernel)) ggX9_wrongFigures_X9_in
set_option maxRecDepth 20000 in
theorem ggX9_wrongFigures_X9_isSplit : GoodIn wsX9_wrongFigures wsX9_isSplit := goodIn_r _ [19, 20, 13, 14, 15, 16, 21, 22, 23] (by decide +kernel) (by decide +kernel)
set_option maxRecDepth 20000 in
theorem gX9_wrongFigures_X9_isSplit : GoodIn wsX9_wrongFigures (va_wsS RX9 216 yX9_isSplit wsX9_isSplit) := goodIn_app (goodIn_of _ (by decide +kernel)) ggX9_wrongFigures_X9_isSplit
set_option maxRecDepth 20000 in
theorem ggX9_wrongFigures_X9_goTogether : GoodIn wsX9_wrongFigures wsX9_goTogether := goodIn_r _ [26] (by decide +kernel) (by decide +kernel)
set_option maxRecDepth 20000 in
theorem gX9_wrongFigures_X9_goTogether : GoodIn wsX9_wrongFigures (va_wsS RX9 210 yX9_goTogether wsX9_goTogether) := goodIn_app (goodIn_of _ (by decide +kernel)) ggX9_wrongFigures_X9_goTogether
theorem dX9_wrongFigures_0 : decode cX9_wrongFigures 0 = .ok (.aload_n 0, 1) := by decide +kernel
theorem dX9_wrongFigures_1 : decode cX9_wrongFigures 1 = .ok (.getfield 291, 3) := by decide +kernel
theorem dX9_wrongFigures_4 : decode cX9_wrongFigures 4 = .ok (.iconst 2, 1) := by decide +kernel
theorem dX9_wrongFigures_5 : decode cX9_wrongFigures 5 = .ok (.if_icmp .le 5, 3) := by decide +kernel
theorem dX9_wrongFigures_8 : decode cX9_wrongFigures 8 = .ok (.iconst 0, 1) := by decide +kernel
theorem dX9_wrongFigures_9 : decode cX9_wrongFigures 9 = .ok (.ireturn, 1) := by decide +kernel
theorem dX9_wrongFigures_10 : decode cX9_wrongFigures 10 = .ok (.iconst 0, 1) := by decide +kernel
theorem dX9_wrongFigures_11 : decode cX9_wrongFigures 11 = .ok (.istore_n 1, 1) := by decide +kernel
theorem dX9_wrongFigures_12 : decode cX9_wrongFigures 12 = .ok (.iload_n 1, 1) := by decide +kernel
theorem dX9_wrongFigures_13 : decode cX9_wrongFigures 13 = .ok (.aload_n 0, 1) := by decide +kernel
theorem dX9_wrongFigures_14 : decode cX9_wrongFigures 14 = .ok (.getfield 279, 3) := by decide +kernel
theorem dX9_wrongFigures_17 : decode cX9_wrongFigures 17 = .ok (.if_icmp .ge 27, 3) := by decide +kernel
theorem dX9_wrongFigures_20 : decode cX9_wrongFigures 20 = .ok (.aload_n 0, 1) := by decide +kernel
theorem dX9_wrongFigures_21 : decode cX9_wrongFigures 21 = .ok (.getfield 47, 3) := by decide +kernel
theorem dX9_wrongFigures_24 : decode cX9_wrongFigures 24 = .ok (.iload_n 1, 1) := by decide +kernel
theorem dX9_wrongFigures_25 : decode cX9_wrongFigures 25 = .ok (.iaload, 1) := by decide +kernel
theorem dX9_wrongFigures_26 : decode cX9_wrongFigures 26 = .ok (.bipush 12, 2) := by decide +kernel
theorem dX9_wrongFigures_28 : decode cX9_wrongFigures 28 = .ok (.if_icmp .le 10, 3) := by decide +kernel
theorem dX9_wrongFigures_31 : decode cX9_wrongFigures 31 = .ok (.aload_n 0, 1) := by decide +kernel
theorem dX9_wrongFigures_32 : decode cX9_wrongFigures 32 = .ok (.getfield 50, 3) := by decide +kernel
theorem dX9_wrongFigures_35 : decode cX9_wrongFigures 35 = .ok (.iload_n 1, 1) := by decide +kernel
theorem dX9_wrongFigures_36 : decode cX9_wrongFigures 36 = .ok (.iaload, 1) := by decide +kernel
theorem dX9_wrongFigures_37 : decode cX9_wrongFigures 37 = .ok (.ireturn, 1) := by decide +kernel
theorem dX9_wrongFigures_38 : decode cX9_wrongFigures 38 = .ok (.iinc 1 1, 3) := by decide +kernel
theorem dX9_wrongFigures_41 : decode cX9_wrongFigures 41 = .ok (.goto (-29), 3) := by decide +kernel
theorem dX9_wrongFigures_44 : decode cX9_wrongFigures 44 = .ok (.aload_n 0, 1) := by decide +kernel
theorem dX9_wrongFigures_45 : decode cX9_wrongFigures 45 = .ok (.getfield 288, 3) := by decide +kernel
theorem dX9_wrongFigures_48 : decode cX9_wrongFigures 48 = .ok (.ifCond .ne 6, 3) := by decide +kernel
theorem dX9_wrongFigures_51 : decode cX9_wrongFigures 51 = .ok (.bipush (-2), 2) := by decide +kernel
theorem dX9_wrongFigures_53 : decode cX9_wrongFigures 53 = .ok (.ireturn, 1) := by decide +kernel
theorem dX9_wrongFigures_54 : decode cX9_wrongFigures 54 = .ok (.aload_n 0, 1) := by decide +kernel
theorem dX9_wrongFigures_55 : decode cX9_wrongFigures 55 = .ok (.getfield 303, 3) := by decide +kernel
theorem dX9_wrongFigures_58 : decode cX9_wrongFigures 58 = .ok (.i2l, 1) := by decide +kernel
theorem dX9_wrongFigures_59 : decode cX9_wrongFigures 59 = .ok (.ldc2_w 128, 3) := by decide +kernel
theorem dX9_wrongFigures_62 : decode cX9_wrongFigures 62 = .ok (.ldc2_w 214, 3) := by decide +kernel
theorem dX9_wrongFigures_65 : decode cX9_wrongFigures 65 = .ok (.invokestatic 110, 3) := by decide +kernel
theorem dX9_wrongFigures_68 : decode cX9_wrongFigures 68 = .ok (.ifCond .ne 8, 3) := by decide +kernel
theorem dX9_wrongFigures_71 : decode cX9_wrongFigures 71 = .ok (.aload_n 0, 1) := by decide +kernel
theorem dX9_wrongFigures_72 : decode cX9_wrongFigures 72 = .ok (.getfield 300, 3) := by decide +kernel
theorem dX9_wrongFigures_75 : decode cX9_wrongFigures 75 = .ok (.ireturn, 1) := by decide +kernel
theorem dX9_wrongFigures_76 : decode cX9_wrongFigures 76 = .ok (.iconst 0, 1) := by decide +kernel
theorem dX9_wrongFigures_77 : decode cX9_wrongFigures 77 = .ok (.istore_n 1, 1) := by decide +kernel
theorem dX9_wrongFigures_78 : decode cX9_wrongFigures 78 = .ok (.iload_n 1, 1) := by decide +kernel
theorem dX9_wrongFigures_79 : decode cX9_wrongFigures 79 = .ok (.aload_n 0, 1) := by decide +kernel
theorem dX9_wrongFigures_80 : decode cX9_wrongFigures 80 = .ok (.getfield 285, 3) := by decide +kernel
theorem dX9_wrongFigures_83 : decode cX9_wrongFigures 83 = .ok (.if_icmp .ge 85, 3) := by decide +kernel
theorem dX9_wrongFigures_86 : decode cX9_wrongFigures 86 = .ok (.aload_n 0, 1) := by decide +kernel
theorem dX9_wrongFigures_87 : decode cX9_wrongFigures 87 = .ok (.getfield 53, 3) := by decide +kernel
theorem dX9_wrongFigures_90 : decode cX9_wrongFigures 90 = .ok (.iload_n 1, 1) := by decide +kernel
theorem dX9_wrongFigures_91 : decode cX9_wrongFigures 91 = .ok (.iaload, 1) := by decide +kernel
theorem dX9_wrongFigures_92 : decode cX9_wrongFigures 92 = .ok (.aload_n 0, 1) := by decide +kernel
theorem dX9_wrongFigures_93 : decode cX9_wrongFigures 93 = .ok (.getfield 303, 3) := by decide +kernel
theorem dX9_wrongFigures_96 : decode cX9_wrongFigures 96 = .ok (.invokestatic 216, 3) := by decide +kernel
theorem dX9_wrongFigures_99 : decode cX9_wrongFigures 99 = .ok (.ifCond .ne 10, 3) := by decide +kernel
theorem dX9_wrongFigures_102 : decode cX9_wrongFigures 102 = .ok (.aload_n 0, 1) := by decide +kernel
theorem dX9_wrongFigures_103 : decode cX9_wrongFigures 103 = .ok (.getfield 56, 3) := by decide +kernel
theorem dX9_wrongFigures_106 : decode cX9_wrongFigures 106 = .ok (.iload_n 1, 1) := by decide +kernel
theorem dX9_wrongFigures_107 : decode cX9_wrongFigures 107 = .ok (.iaload, 1) := by decide +kernel
theorem dX9_wrongFigures_108 : decode cX9_wrongFigures 108 = .ok (.ireturn, 1) := by decide +kernel
theorem dX9_wrongFigures_109 : decode cX9_wrongFigures 109 = .ok (.iconst 0, 1) := by decide +kernel
theorem dX9_wrongFigures_110 : decode cX9_wrongFigures 110 = .ok (.istore_n 2, 1) := by decide +kernel
theorem dX9_wrongFigures_111 : decode cX9_wrongFigures 111 = .ok (.iload_n 2, 1) := by decide +kernel
theorem dX9_wrongFigures_112 : decode cX9_wrongFigures 112 = .ok (.iload_n 1, 1) := by decide +kernel
theorem dX9_wrongFigures_113 : decode cX9_wrongFigures 113 = .ok (.if_icmp .ge 49, 3) := by decide +kernel
theorem dX9_wrongFigures_116 : decode cX9_wrongFigures 116 = .ok (.aload_n 0, 1) := by decide +kernel
theorem dX9_wrongFigures_117 : decode cX9_wrongFigures 117 = .ok (.getfield 53, 3) := by decide +kernel
theorem dX9_wrongFigures_120 : decode cX9_wrongFigures 120 = .ok (.iload_n 2, 1) := by decide +kernel
theorem dX9_wrongFigures_121 : decode cX9_wrongFigures 121 = .ok (.iaload, 1) := by decide +kernel
theorem dX9_wrongFigures_122 : decode cX9_wrongFigures 122 = .ok (.aload_n 0, 1) := by decide +kernel
theorem dX9_wrongFigures_123 : decode cX9_wrongFigures 123 = .ok (.getfield 53, 3) := by decide +kernel
theorem dX9_wrongFigures_126 : decode cX9_wrongFigures 126 = .ok (.iload_n 1, 1) := by decide +kernel
theorem dX9_wrongFigures_127 : decode cX9_wrongFigures 127 = .ok (.iaload, 1) := by decide +kernel
theorem dX9_wrongFigures_128 : decode cX9_wrongFigures 128 = .ok (.if_icmp .eq 21, 3) := by decide +kernel
theorem dX9_wrongFigures_131 : decode cX9_wrongFigures 131 = .ok (.aload_n 0, 1) := by decide +kernel
theorem dX9_wrongFigures_132 : decode cX9_wrongFigures 132 = .ok (.getfield 53, 3) := by decide +kernel
theorem dX9_wrongFigures_135 : decode cX9_wrongFigures 135 = .ok (.iload_n 2, 1) := by decide +kernel
theorem dX9_wrongFigures_136 : decode cX9_wrongFigures 136 = .ok (.iaload, 1) := by decide +kernel
theorem dX9_wrongFigures_137 : decode cX9_wrongFigures 137 = .ok (.aload_n 0, 1) := by decide +kernel
theorem dX9_wrongFigures_138 : decode cX9_wrongFigures 138 = .ok (.getfield 53, 3) := by decide +kernel
theorem dX9_wrongFigures_141 : decode cX9_wrongFigures 141 = .ok (.iload_n 1, 1) := by decide +kernel
theorem dX9_wrongFigures_142 : decode cX9_wrongFigures 142 = .ok (.iaload, 1) := by decide +kernel
theorem dX9_wrongFigures_143 : decode cX9_wrongFigures 143 = .ok (.invokestatic 210, 3) := by decide +kernel
theorem dX9_wrongFigures_146 : decode cX9_wrongFigures 146 = .ok (.ifCond .ne 10, 3) := by decide +kernel
theorem dX9_wrongFigures_149 : decode cX9_wrongFigures 149 = .ok (.aload_n 0, 1) := by decide +kernel
theorem dX9_wrongFigures_150 : decode cX9_wrongFigures 150 = .ok (.getfield 56, 3) := by decide +kernel
theorem dX9_wrongFigures_153 : decode cX9_wrongFigures 153 = .ok (.iload_n 1, 1) := by decide +kernel
theorem dX9_wrongFigures_154 : decode cX9_wrongFigures 154 = .ok (.iaload, 1) := by decide +kernel
theorem dX9_wrongFigures_155 : decode cX9_wrongFigures 155 = .ok (.ireturn, 1) := by decide +kernel
theorem dX9_wrongFigures_156 : decode cX9_wrongFigures 156 = .ok (.iinc 2 1, 3) := by decide +kernel
theorem dX9_wrongFigures_159 : decode cX9_wrongFigures 159 = .ok (.goto (-48), 3) := by decide +kernel
theorem dX9_wrongFigures_162 : decode cX9_wrongFigures 162 = .ok (.iinc 1 1, 3) := by decide +kernel
theorem dX9_wrongFigures_165 : decode cX9_wrongFigures 165 = .ok (.goto (-87), 3) := by decide +kernel
theorem dX9_wrongFigures_168 : decode cX9_wrongFigures 168 = .ok (.bipush (-2), 2) := by decide +kernel
theorem dX9_wrongFigures_170 : decode cX9_wrongFigures 170 = .ok (.ireturn, 1) := by decide +kernel
theorem dX9_because_0 : decode cX9_because 0 = .ok (.iconst 0, 1) := by decide +kernel
theorem dX9_because_1 : decode cX9_because 1 = .ok (.istore_n 3, 1) := by decide +kernel
theorem dX9_because_2 : decode cX9_because 2 = .ok (.iload_n 3, 1) := by decide +kernel
theorem dX9_because_3 : decode cX9_because 3 = .ok (.aload_n 0, 1) := by decide +kernel
theorem dX9_because_4 : decode cX9_because 4 = .ok (.getfield 258, 3) := by decide +kernel
theorem dX9_because_7 : decode cX9_because 7 = .ok (.if_icmp .ge 20, 3) := by decide +kernel
theorem dX9_because_10 : decode cX9_because 10 = .ok (.aload_n 0, 1) := by decide +kernel
theorem dX9_because_11 : decode cX9_because 11 = .ok (.getfield 44, 3) := by decide +kernel
theorem dX9_because_14 : decode cX9_because 14 = .ok (.iload_n 3, 1) := by decide +kernel
theorem dX9_because_15 : decode cX9_because 15 = .ok (.iaload, 1) := by decide +kernel
theorem dX9_because_16 : decode cX9_because 16 = .ok (.bipush 47, 2) := by decide +kernel
theorem dX9_because_18 : decode cX9_because 18 = .ok (.if_icmp .eq 9, 3) := by decide +kernel
theorem dX9_because_21 : decode cX9_because 21 = .ok (.iinc 3 1, 3) := by decide +kernel
theorem dX9_because_24 : decode cX9_because 24 = .ok (.goto (-22), 3) := by decide +kernel
theorem dX9_because_27 : decode cX9_because 27 = .ok (.iload_n 2, 1) := by decide +kernel
theorem dX9_because_28 : decode cX9_because 28 = .ok (.ifCond .ne 7, 3) := by decide +kernel
theorem dX9_because_31 : decode cX9_because 31 = .ok (.iconst 2, 1) := by decide +kernel
theorem dX9_because_32 : decode cX9_because 32 = .ok (.goto 24, 3) := by decide +kernel
theorem dX9_because_35 : decode cX9_because 35 = .ok (.iload_n 2, 1) := by decide +kernel
theorem dX9_because_36 : decode cX9_because 36 = .ok (.iload_n 3, 1) := by decide +kernel
theorem dX9_because_37 : decode cX9_because 37 = .ok (.if_icmp .gt 7, 3) := by decide +kernel
theorem dX9_because_40 : decode cX9_because 40 = .ok (.iconst 3, 1) := by decide +kernel
theorem dX9_because_41 : decode cX9_because 41 = .ok (.goto 15, 3) := by decide +kernel
theorem dX9_because_44 : decode cX9_because 44 = .ok (.iload_n 2, 1) := by decide +kernel
theorem dX9_because_45 : decode cX9_because 45 = .ok (.iload_n 3, 1) := by decide +kernel
theorem dX9_because_46 : decode cX9_because 46 = .ok (.iconst 1, 1) := by decide +kernel
theorem dX9_because_47 : decode cX9_because 47 = .ok (.iadd, 1) := by decide +kernel
theorem dX9_because_48 : decode cX9_because 48 = .ok (.if_icmp .ne 7, 3) := by decide +kernel
theorem dX9_because_51 : decode cX9_because 51 = .ok (.iconst 4, 1) := by decide +kernel
theorem dX9_because_52 : decode cX9_because 52 = .ok (.goto 4, 3) := by decide +kernel
theorem dX9_because_55 : decode cX9_because 55 = .ok (.iconst 5, 1) := by decide +kernel
theorem dX9_because_56 : decode cX9_because 56 = .ok (.istore 4, 2) := by decide +kernel
theorem dX9_because_58 : decode cX9_because 58 = .ok (.iconst 0, 1) := by decide +kernel
theorem dX9_because_59 : decode cX9_because 59 = .ok (.istore 5, 2) := by decide +kernel
theorem dX9_because_61 : decode cX9_because 61 = .ok (.iconst 0, 1) := by decide +kernel
theorem dX9_because_62 : decode cX9_because 62 = .ok (.istore 6, 2) := by decide +kernel
theorem dX9_because_64 : decode cX9_because 64 = .ok (.iload 6, 2) := by decide +kernel
theorem dX9_because_66 : decode cX9_because 66 = .ok (.iload_n 2, 1) := by decide +kernel
theorem dX9_because_67 : decode cX9_because 67 = .ok (.if_icmp .ge 55, 3) := by decide +kernel
theorem dX9_because_70 : decode cX9_because 70 = .ok (.iload 5, 2) := by decide +kernel
theorem dX9_because_72 : decode cX9_because 72 = .ok (.iload 4, 2) := by decide +kernel
theorem dX9_because_74 : decode cX9_because 74 = .ok (.iconst 3, 1) := by decide +kernel
theorem dX9_because_75 : decode cX9_because 75 = .ok (.if_icmp .ne 15, 3) := by decide +kernel
theorem dX9_because_78 : decode cX9_because 78 = .ok (.aload_n 0, 1) := by decide +kernel
theorem dX9_because_79 : decode cX9_because 79 = .ok (.getfield 44, 3) := by decide +kernel
theorem dX9_because_82 : decode cX9_because 82 = .ok (.iload 6, 2) := by decide +kernel
theorem dX9_because_84 : decode cX9_because 84 = .ok (.iaload, 1) := by decide +kernel
theorem dX9_because_85 : decode cX9_because 85 = .ok (.bipush 44, 2) := by decide +kernel
theorem dX9_because_87 : decode cX9_because 87 = .ok (.if_icmp .eq 21, 3) := by decide +kernel
theorem dX9_because_90 : decode cX9_because 90 = .ok (.iload 4, 2) := by decide +kernel
theorem dX9_because_92 : decode cX9_because 92 = .ok (.iconst 5, 1) := by decide +kernel
theorem dX9_because_93 : decode cX9_because 93 = .ok (.if_icmp .ne 19, 3) := by decide +kernel
theorem dX9_because_96 : decode cX9_because 96 = .ok (.aload_n 0, 1) := by decide +kernel
theorem dX9_because_97 : decode cX9_because 97 = .ok (.getfield 44, 3) := by decide +kernel
theorem dX9_because_100 : decode cX9_because 100 = .ok (.iload 6, 2) := by decide +kernel
theorem dX9_because_102 : decode cX9_because 102 = .ok (.iaload, 1) := by decide +kernel
theorem dX9_because_103 : decode cX9_because 103 = .ok (.bipush 59, 2) := by decide +kernel
theorem dX9_because_105 : decode cX9_because 105 = .ok (.if_icmp .ne 7, 3) := by decide +kernel
theorem dX9_because_108 : decode cX9_because 108 = .ok (.iconst 1, 1) := by decide +kernel
theorem dX9_because_109 : decode cX9_because 109 = .ok (.goto 4, 3) := by decide +kernel
theorem dX9_because_112 : decode cX9_because 112 = .ok (.iconst 0, 1) := by decide +kernel
theorem dX9_because_113 : decode cX9_because 113 = .ok (.iadd, 1) := by decide +kernel
theorem dX9_because_114 : decode cX9_because 114 = .ok (.istore 5, 2) := by decide +kernel
theorem dX9_because_116 : decode cX9_because 116 = .ok (.iinc 6 1, 3) := by decide +kernel
theorem dX9_because_119 : decode cX9_because 119 = .ok (.goto (-55), 3) := by decide +kernel
theorem dX9_because_122 : decode cX9_because 122 = .ok (.aload_n 0, 1) := by decide +kernel
theorem dX9_because_123 : decode cX9_because 123 = .ok (.getfield 59, 3) := by decide +kernel
theorem dX9_because_126 : decode cX9_because 126 = .ok (.iconst 0, 1) := by decide +kernel
theorem dX9_because_127 : decode cX9_because 127 = .ok (.iconst 1, 1) := by decide +kernel
theorem dX9_because_128 : decode cX9_because 128 = .ok (.iastore, 1) := by decide +kernel
theorem dX9_because_129 : decode cX9_because 129 = .ok (.aload_n 0, 1) := by decide +kernel
theorem dX9_because_130 : decode cX9_because 130 = .ok (.getfield 59, 3) := by decide +kernel
theorem dX9_because_133 : decode cX9_because 133 = .ok (.iconst 1, 1) := by decide +kernel
theorem dX9_because_134 : decode cX9_because 134 = .ok (.aload_n 0, 1) := by decide +kernel
theorem dX9_because_135 : decode cX9_because 135 = .ok (.getfield 258, 3) := by decide +kernel
theorem dX9_because_138 : decode cX9_because 138 = .ok (.iastore, 1) := by decide +kernel
theorem dX9_because_139 : decode cX9_because 139 = .ok (.aload_n 0, 1) := by decide +kernel
theorem dX9_because_140 : decode cX9_because 140 = .ok (.getfield 59, 3) := by decide +kernel
theorem dX9_because_143 : decode cX9_because 143 = .ok (.iconst 2, 1) := by decide +kernel
theorem dX9_because_144 : decode cX9_because 144 = .ok (.iload 4, 2) := by decide +kernel
theorem dX9_because_146 : decode cX9_because 146 = .ok (.iastore, 1) := by decide +kernel
theorem dX9_because_147 : decode cX9_because 147 = .ok (.aload_n 0, 1) := by decide +kernel
theorem dX9_because_148 : decode cX9_because 148 = .ok (.getfield 59, 3) := by decide +kernel
theorem dX9_because_151 : decode cX9_because 151 = .ok (.iconst 3, 1) := by decide +kernel
theorem dX9_because_152 : decode cX9_because 152 = .ok (.iload 5, 2) := by decide +kernel
theorem dX9_because_154 : decode cX9_because 154 = .ok (.iastore, 1) := by decide +kernel
theorem dX9_because_155 : decode cX9_because 155 = .ok (.aload_n 0, 1) := by decide +kernel
theorem dX9_because_156 : decode cX9_because 156 = .ok (.getfield 59, 3) := by decide +kernel
theorem dX9_because_159 : decode cX9_because 159 = .ok (.iconst 4, 1) := by decide +kernel
theorem dX9_because_160 : decode cX9_because 160 = .ok (.iload_n 1, 1) := by decide +kernel
theorem dX9_because_161 : decode cX9_because 161 = .ok (.iastore, 1) := by decide +kernel
theorem dX9_because_162 : decode cX9_because 162 = .ok (.aload_n 0, 1) := by decide +kernel
theorem dX9_because_163 : decode cX9_because 163 = .ok (.getfield 59, 3) := by decide +kernel
theorem dX9_because_166 : decode cX9_because 166 = .ok (.iconst 5, 1) := by decide +kernel
theorem dX9_because_167 : decode cX9_because 167 = .ok (.iload_n 2, 1) := by decide +kernel
theorem dX9_because_168 : decode cX9_because 168 = .ok (.iastore, 1) := by decide +kernel
theorem dX9_because_169 : decode cX9_because 169 = .ok (.aload_n 0, 1) := by decide +kernel
theorem dX9_because_170 : decode cX9_because 170 = .ok (.iconst 1, 1) := by decide +kernel
theorem dX9_because_171 : decode cX9_because 171 = .ok (.putfield 309, 3) := by decide +kernel
theorem dX9_because_174 : decode cX9_because 174 = .ok (.return_, 1) := by decide +kernel
set_option maxRecDepth 20000 in
theorem ggX9_read_X9_form : GoodIn wsX9_read wsX9_form := goodIn_r _ [20, 2, 1, 6, 14, 10, 4, 21, 11, 3, 22, 23, 24, 19, 25, 26, 27, 28, 29, 30, 31, 32, 33, 34, 35, 36, 37, 38, 39, 40, 41, 42, 43, 44, 45, 46, 47, 48, 9, 49, 50, 51, 52, 53, 15, 101, 102, 103, 104, 105, 106, 107, 108, 109, 110, 111, 112, 113, 114, 115, 116, 117, 118, 119, 120, 121, 122, 123, 124, 125, 126, 127, 128, 129, 130, 131, 132, 133, 134, 135, 136, 137, 138, 139, 140, 141, 142] (by decide +kernel) (by decide +kernel)
set_option maxRecDepth 20000 in
theorem gX9_read_X9_form : GoodIn wsX9_read (wsV RX9 312 RX9 yX9_form wsX9_form) := goodIn_app (goodIn_of _ (by decide +kernel)) ggX9_read_X9_form
set_option maxRecDepth 20000 in
theorem ggX9_read_X9_because : GoodIn wsX9_read wsX9_because := goodIn_r _ [57, 3, 26, 58, 59, 101, 102, 103, 104, 105, 106, 107, 108, 109, 110, 111, 112, 113, 114, 115, 116, 117, 118, 119, 120, 121, 122, 123, 124, 125, 126, 127, 128, 129, 130, 131, 132, 133, 134, 135, 136, 137, 138, 139, 140, 141, 142] (by decide +kernel) (by decide +kernel)
set_option maxRecDepth 20000 in
theorem gX9_read_X9_because : GoodIn wsX9_read (wsV RX9 315 RX9 yX9_because wsX9_because) := goodIn_app (goodIn_of _ (by decide +kernel)) ggX9_read_X9_because
set_option maxRecDepth 20000 in
theorem ggX9_read_X9_wrongFigures : GoodIn wsX9_read wsX9_wrongFigures := goodIn_r _ [63, 4, 6, 9, 48, 10, 11, 64, 65, 21, 14, 15, 53, 37, 38, 19, 39, 66, 67, 68, 69, 70, 71, 72, 73, 74, 75, 101, 102, 103, 104, 105, 106, 107, 108, 109, 110, 111, 112, 113, 114, 115, 116, 117, 118, 119, 120, 121, 122, 123, 124, 125, 126, 127, 128, 129, 130, 131, 132, 133, 134, 135, 136, 137, 138, 139, 140, 141, 142] (by decide +kernel) (by decide +kernel)
set_option maxRecDepth 20000 in
theorem gX9_read_X9_wrongFigures : GoodIn wsX9_read (wsV RX9 318 RX9 yX9_wrongFigures wsX9_wrongFigures) := goodIn_app (goodIn_of _ (by decide +kernel)) ggX9_read_X9_wrongFigures
set_option maxRecDepth 20000 in
theorem ggX9_read_X9_begins : GoodIn wsX9_read wsX9_begins := goodIn_r _ [79, 80, 81, 82, 83, 19, 84, 5, 7, 12, 13, 8, 85, 101, 102, 103, 104, 105, 106, 107, 108, 109, 110, 111, 112, 113, 114, 115, 116, 117, 118, 119, 120, 121, 122, 123, 124, 125, 126, 127, 128, 129, 130, 131, 132, 133, 134, 135, 136, 137, 138, 139, 140, 141, 142] (by decide +kernel) (by decide +kernel)
set_option maxRecDepth 20000 in
theorem gX9_read_X9_begins : GoodIn wsX9_read (wsV RX9 116 RX9 yX9_begins wsX9_begins) := goodIn_app (goodIn_of _ (by decide +kernel)) ggX9_read_X9_begins
set_option maxRecDepth 20000 in
theorem ggX9_read_X9_comes : GoodIn wsX9_read wsX9_comes := goodIn_r _ [89, 85, 13, 90, 91, 19, 92, 101, 102, 103, 104, 105, 106, 107, 108, 109, 110, 111, 112, 113, 114, 115, 116, 117, 118, 119, 120, 121, 122, 123, 124, 125, 126, 127, 128, 129, 130, 131, 132, 133, 134, 135, 136, 137, 138, 139, 140, 141, 142] (by decide +kernel) (by decide +kernel)
set_option maxRecDepth 20000 in
theorem gX9_read_X9_comes : GoodIn wsX9_read (wsV RX9 222 RX9 yX9_comes wsX9_comes) := goodIn_app (goodIn_of _ (by decide +kernel)) ggX9_read_X9_comes
set_option maxRecDepth 20000 in
theorem ggX9_read_X9_ends : GoodIn wsX9_read wsX9_ends := goodIn_r _ [96, 97, 80, 98, 99, 100, 81, 82, 83, 19, 84, 5, 7, 12, 13, 8, 85, 101, 102, 103, 104, 105, 106, 107, 108, 109, 110, 111, 112, 113, 114, 115, 116, 117, 118, 119, 120, 121, 122, 123, 124, 125, 126, 127, 128, 129, 130, 131, 132, 133, 134, 135, 136, 137, 138, 139, 140, 141, 142] (by decide +kernel) (by decide +kernel)
set_option maxRecDepth 20000 in
theorem gX9_read_X9_ends : GoodIn wsX9_read (wsV RX9 119 RX9 yX9_ends wsX9_ends) := goodIn_app (goodIn_of _ (by decide +kernel)) ggX9_read_X9_ends
theorem dX9_read_0 : decode cX9_read 0 = .ok (.aload_n 0, 1) := by decide +kernel
theorem dX9_read_1 : decode cX9_read 1 = .ok (.invokevirtual 312, 3) := by decide +kernel
theorem dX9_read_4 : decode cX9_read 4 = .ok (.aload_n 0, 1) := by decide +kernel
theorem dX9_read_5 : decode cX9_read 5 = .ok (.getfield 271, 3) := by decide +kernel
theorem dX9_read_8 : decode cX9_read 8 = .ok (.ifCond .eq 27, 3) := by decide +kernel
theorem dX9_read_11 : decode cX9_read 11 = .ok (.aload_n 0, 1) := by decide +kernel
theorem dX9_read_12 : decode cX9_read 12 = .ok (.bipush 6, 2) := by decide +kernel
theorem dX9_read_14 : decode cX9_read 14 = .ok (.aload_n 0, 1) := by decide +kernel
theorem dX9_read_15 : decode cX9_read 15 = .ok (.getfield 261, 3) := by decide +kernel
theorem dX9_read_18 : decode cX9_read 18 = .ok (.invokevirtual 315, 3) := by decide +kernel
theorem dX9_read_21 : decode cX9_read 21 = .ok (.aload_n 0, 1) := by decide +kernel
theorem dX9_read_22 : decode cX9_read 22 = .ok (.iconst 0, 1) := by decide +kernel
theorem dX9_read_23 : decode cX9_read 23 = .ok (.putfield 258, 3) := by decide +kernel
theorem dX9_read_26 : decode cX9_read 26 = .ok (.sipush (-1000), 3) := by decide +kernel
theorem dX9_read_29 : decode cX9_read 29 = .ok (.aload_n 0, 1) := by decide +kernel
theorem dX9_read_30 : decode cX9_read 30 = .ok (.getfield 261, 3) := by decide +kernel
theorem dX9_read_33 : decode cX9_read 33 = .ok (.isub, 1) := by decide +kernel
theorem dX9_read_34 : decode cX9_read 34 = .ok (.ireturn, 1) := by decide +kernel
theorem dX9_read_35 : decode cX9_read 35 = .ok (.aload_n 0, 1) := by decide +kernel
theorem dX9_read_36 : decode cX9_read 36 = .ok (.invokevirtual 318, 3) := by decide +kernel
theorem dX9_read_39 : decode cX9_read 39 = .ok (.istore_n 1, 1) := by decide +kernel
theorem dX9_read_40 : decode cX9_read 40 = .ok (.iload_n 1, 1) := by decide +kernel
theorem dX9_read_41 : decode cX9_read 41 = .ok (.ifCond .lt 21, 3) := by decide +kernel
theorem dX9_read_44 : decode cX9_read 44 = .ok (.aload_n 0, 1) := by decide +kernel
theorem dX9_read_45 : decode cX9_read 45 = .ok (.bipush 7, 2) := by decide +kernel
theorem dX9_read_47 : decode cX9_read 47 = .ok (.iload_n 1, 1) := by decide +kernel
theorem dX9_read_48 : decode cX9_read 48 = .ok (.invokevirtual 315, 3) := by decide +kernel
theorem dX9_read_51 : decode cX9_read 51 = .ok (.aload_n 0, 1) := by decide +kernel
theorem dX9_read_52 : decode cX9_read 52 = .ok (.iconst 0, 1) := by decide +kernel
theorem dX9_read_53 : decode cX9_read 53 = .ok (.putfield 258, 3) := by decide +kernel
theorem dX9_read_56 : decode cX9_read 56 = .ok (.sipush (-2000), 3) := by decide +kernel
theorem dX9_read_59 : decode cX9_read 59 = .ok (.iload_n 1, 1) := by decide +kernel
theorem dX9_read_60 : decode cX9_read 60 = .ok (.isub, 1) := by decide +kernel
theorem dX9_read_61 : decode cX9_read 61 = .ok (.ireturn, 1) := by decide +kernel
theorem dX9_read_62 : decode cX9_read 62 = .ok (.aload_n 0, 1) := by decide +kernel
theorem dX9_read_63 : decode cX9_read 63 = .ok (.iconst 0, 1) := by decide +kernel
theorem dX9_read_64 : decode cX9_read 64 = .ok (.putfield 258, 3) := by decide +kernel
theorem dX9_read_67 : decode cX9_read 67 = .ok (.aload_n 0, 1) := by decide +kernel
theorem dX9_read_68 : decode cX9_read 68 = .ok (.invokevirtual 116, 3) := by decide +kernel
theorem dX9_read_71 : decode cX9_read 71 = .ok (.aload_n 0, 1) := by decide +kernel
theorem dX9_read_72 : decode cX9_read 72 = .ok (.aload_n 0, 1) := by decide +kernel
theorem dX9_read_73 : decode cX9_read 73 = .ok (.getfield 291, 3) := by decide +kernel
theorem dX9_read_76 : decode cX9_read 76 = .ok (.putfield 88, 3) := by decide +kernel
theorem dX9_read_79 : decode cX9_read 79 = .ok (.aload_n 0, 1) := by decide +kernel
theorem dX9_read_80 : decode cX9_read 80 = .ok (.aload_n 0, 1) := by decide +kernel
theorem dX9_read_81 : decode cX9_read 81 = .ok (.getfield 279, 3) := by decide +kernel
theorem dX9_read_84 : decode cX9_read 84 = .ok (.putfield 91, 3) := by decide +kernel
theorem dX9_read_87 : decode cX9_read 87 = .ok (.iconst 0, 1) := by decide +kernel
theorem dX9_read_88 : decode cX9_read 88 = .ok (.istore_n 2, 1) := by decide +kernel
theorem dX9_read_89 : decode cX9_read 89 = .ok (.iload_n 2, 1) := by decide +kernel
theorem dX9_read_90 : decode cX9_read 90 = .ok (.aload_n 0, 1) := by decide +kernel
theorem dX9_read_91 : decode cX9_read 91 = .ok (.getfield 91, 3) := by decide +kernel
theorem dX9_read_94 : decode cX9_read 94 = .ok (.if_icmp .ge 21, 3) := by decide +kernel
theorem dX9_read_97 : decode cX9_read 97 = .ok (.aload_n 0, 1) := by decide +kernel
theorem dX9_read_98 : decode cX9_read 98 = .ok (.getfield 11, 3) := by decide +kernel
theorem dX9_read_101 : decode cX9_read 101 = .ok (.iload_n 2, 1) := by decide +kernel
theorem dX9_read_102 : decode cX9_read 102 = .ok (.aload_n 0, 1) := by decide +kernel
theorem dX9_read_103 : decode cX9_read 103 = .ok (.getfield 47, 3) := by decide +kernel
theorem dX9_read_106 : decode cX9_read 106 = .ok (.iload_n 2, 1) := by decide +kernel
theorem dX9_read_107 : decode cX9_read 107 = .ok (.iaload, 1) := by decide +kernel
theorem dX9_read_108 : decode cX9_read 108 = .ok (.iastore, 1) := by decide +kernel
theorem dX9_read_109 : decode cX9_read 109 = .ok (.iinc 2 1, 3) := by decide +kernel
theorem dX9_read_112 : decode cX9_read 112 = .ok (.goto (-23), 3) := by decide +kernel
theorem dX9_read_115 : decode cX9_read 115 = .ok (.aload_n 0, 1) := by decide +kernel
theorem dX9_read_116 : decode cX9_read 116 = .ok (.getfield 288, 3) := by decide +kernel
theorem dX9_read_119 : decode cX9_read 119 = .ok (.ifCond .eq 42, 3) := by decide +kernel
theorem dX9_read_122 : decode cX9_read 122 = .ok (.aload_n 0, 1) := by decide +kernel
theorem dX9_read_123 : decode cX9_read 123 = .ok (.aload_n 0, 1) := by decide +kernel
theorem dX9_read_124 : decode cX9_read 124 = .ok (.getfield 303, 3) := by decide +kernel
theorem dX9_read_127 : decode cX9_read 127 = .ok (.putfield 15, 3) := by decide +kernel
theorem dX9_read_130 : decode cX9_read 130 = .ok (.aload_n 0, 1) := by decide +kernel
theorem dX9_read_131 : decode cX9_read 131 = .ok (.iconst 0, 1) := by decide +kernel
theorem dX9_read_132 : decode cX9_read 132 = .ok (.putfield 94, 3) := by decide +kernel
theorem dX9_read_135 : decode cX9_read 135 = .ok (.iconst 0, 1) := by decide +kernel
theorem dX9_read_136 : decode cX9_read 136 = .ok (.istore_n 2, 1) := by decide +kernel
theorem dX9_read_137 : decode cX9_read 137 = .ok (.iload_n 2, 1) := by decide +kernel
theorem dX9_read_138 : decode cX9_read 138 = .ok (.aload_n 0, 1) := by decide +kernel
theorem dX9_read_139 : decode cX9_read 139 = .ok (.getfield 285, 3) := by decide +kernel
theorem dX9_read_142 : decode cX9_read 142 = .ok (.if_icmp .ge 19, 3) := by decide +kernel
theorem dX9_read_145 : decode cX9_read 145 = .ok (.aload_n 0, 1) := by decide +kernel
theorem dX9_read_146 : decode cX9_read 146 = .ok (.aload_n 0, 1) := by decide +kernel
theorem dX9_read_147 : decode cX9_read 147 = .ok (.getfield 53, 3) := by decide +kernel
theorem dX9_read_150 : decode cX9_read 150 = .ok (.iload_n 2, 1) := by decide +kernel
theorem dX9_read_151 : decode cX9_read 151 = .ok (.iaload, 1) := by decide +kernel
theorem dX9_read_152 : decode cX9_read 152 = .ok (.invokevirtual 222, 3) := by decide +kernel
theorem dX9_read_155 : decode cX9_read 155 = .ok (.iinc 2 1, 3) := by decide +kernel
theorem dX9_read_158 : decode cX9_read 158 = .ok (.goto (-21), 3) := by decide +kernel
theorem dX9_read_161 : decode cX9_read 161 = .ok (.aload_n 0, 1) := by decide +kernel
theorem dX9_read_162 : decode cX9_read 162 = .ok (.invokevirtual 119, 3) := by decide +kernel
theorem dX9_read_165 : decode cX9_read 165 = .ok (.aload_n 0, 1) := by decide +kernel
theorem dX9_read_166 : decode cX9_read 166 = .ok (.getfield 91, 3) := by decide +kernel
theorem dX9_read_169 : decode cX9_read 169 = .ok (.ireturn, 1) := by decide +kernel
set_option maxRecDepth 20000 in
theorem ggX9_why_X9_in : GoodIn wsX9_why wsX9_in := goodIn_r _ [7] (by decide +kernel) (by decide +kernel)
set_option maxRecDepth 20000 in
theorem gX9_why_X9_in : GoodIn wsX9_why (va_wsS RX9 110 yX9_in wsX9_in) := goodIn_app (goodIn_of _ (by decide +kernel)) ggX9_why_X9_in
theorem dX9_why_0 : decode cX9_why 0 = .ok (.iload_n 1, 1) := by decide +kernel
theorem dX9_why_1 : decode cX9_why 1 = .ok (.i2l, 1) := by decide +kernel
theorem dX9_why_2 : decode cX9_why 2 = .ok (.lconst 0, 1) := by decide +kernel
theorem dX9_why_3 : decode cX9_why 3 = .ok (.ldc2_w 114, 3) := by decide +kernel
theorem dX9_why_6 : decode cX9_why 6 = .ok (.invokestatic 110, 3) := by decide +kernel
theorem dX9_why_9 : decode cX9_why 9 = .ok (.ifCond .eq 13, 3) := by decide +kernel
theorem dX9_why_12 : decode cX9_why 12 = .ok (.iload_n 2, 1) := by decide +kernel
theorem dX9_why_13 : decode cX9_why 13 = .ok (.i2l, 1) := by decide +kernel
theorem dX9_why_14 : decode cX9_why 14 = .ok (.lconst 0, 1) := by decide +kernel
theorem dX9_why_15 : decode cX9_why 15 = .ok (.lconst 1, 1) := by decide +kernel
theorem dX9_why_16 : decode cX9_why 16 = .ok (.invokestatic 110, 3) := by decide +kernel
theorem dX9_why_19 : decode cX9_why 19 = .ok (.ifCond .ne 5, 3) := by decide +kernel
theorem dX9_why_22 : decode cX9_why 22 = .ok (.iconst (-1), 1) := by decide +kernel
theorem dX9_why_23 : decode cX9_why 23 = .ok (.ireturn, 1) := by decide +kernel
theorem dX9_why_24 : decode cX9_why 24 = .ok (.aload_n 0, 1) := by decide +kernel
theorem dX9_why_25 : decode cX9_why 25 = .ok (.getfield 309, 3) := by decide +kernel
theorem dX9_why_28 : decode cX9_why 28 = .ok (.ifCond .eq 16, 3) := by decide +kernel
theorem dX9_why_31 : decode cX9_why 31 = .ok (.aload_n 0, 1) := by decide +kernel
theorem dX9_why_32 : decode cX9_why 32 = .ok (.getfield 59, 3) := by decide +kernel
theorem dX9_why_35 : decode cX9_why 35 = .ok (.iconst 2, 1) := by decide +kernel
theorem dX9_why_36 : decode cX9_why 36 = .ok (.iload_n 1, 1) := by decide +kernel
theorem dX9_why_37 : decode cX9_why 37 = .ok (.imul, 1) := by decide +kernel
theorem dX9_why_38 : decode cX9_why 38 = .ok (.iload_n 2, 1) := by decide +kernel
theorem dX9_why_39 : decode cX9_why 39 = .ok (.iadd, 1) := by decide +kernel
theorem dX9_why_40 : decode cX9_why 40 = .ok (.iaload, 1) := by decide +kernel
theorem dX9_why_41 : decode cX9_why 41 = .ok (.goto 5, 3) := by decide +kernel
theorem dX9_why_44 : decode cX9_why 44 = .ok (.bipush (-2), 2) := by decide +kernel
theorem dX9_why_46 : decode cX9_why 46 = .ok (.ireturn, 1) := by decide +kernel
theorem dX9_writes_0 : decode cX9_writes 0 = .ok (.aload_n 0, 1) := by decide +kernel
theorem dX9_writes_1 : decode cX9_writes 1 = .ok (.getfield 62, 3) := by decide +kernel
theorem dX9_writes_4 : decode cX9_writes 4 = .ok (.aload_n 0, 1) := by decide +kernel
theorem dX9_writes_5 : decode cX9_writes 5 = .ok (.getfield 321, 3) := by decide +kernel
theorem dX9_writes_8 : decode cX9_writes 8 = .ok (.iload_n 1, 1) := by decide +kernel
theorem dX9_writes_9 : decode cX9_writes 9 = .ok (.iastore, 1) := by decide +kernel
theorem dX9_writes_10 : decode cX9_writes 10 = .ok (.aload_n 0, 1) := by decide +kernel
theorem dX9_writes_11 : decode cX9_writes 11 = .ok (.dup, 1) := by decide +kernel
theorem dX9_writes_12 : decode cX9_writes 12 = .ok (.getfield 321, 3) := by decide +kernel
theorem dX9_writes_15 : decode cX9_writes 15 = .ok (.iconst 1, 1) := by decide +kernel
theorem dX9_writes_16 : decode cX9_writes 16 = .ok (.iadd, 1) := by decide +kernel
theorem dX9_writes_17 : decode cX9_writes 17 = .ok (.putfield 321, 3) := by decide +kernel
theorem dX9_writes_20 : decode cX9_writes 20 = .ok (.return_, 1) := by decide +kernel
set_option maxRecDepth 20000 in
theorem ggX9_spells_X9_writes : GoodIn wsX9_spells wsX9_writes := goodIn_r _ [12, 13, 1, 14, 15, 16, 17, 18, 19, 20, 21, 22, 23, 24, 25, 26, 27, 28, 29, 30, 31, 32, 33, 34, 35, 36, 37, 38, 39, 40, 41, 42, 43, 44, 45, 46, 47, 48, 49, 50, 51, 52, 53, 54, 55] (by decide +kernel) (by decide +kernel)
set_option maxRecDepth 20000 in
theorem gX9_spells_X9_writes : GoodIn wsX9_spells (wsV RX9 324 RX9 yX9_writes wsX9_writes) := goodIn_app (goodIn_of _ (by decide +kernel)) ggX9_spells_X9_writes
theorem dX9_spells_0 : decode cX9_spells 0 = .ok (.aload_n 0, 1) := by decide +kernel
theorem dX9_spells_1 : decode cX9_spells 1 = .ok (.iconst 0, 1) := by decide +kernel
theorem dX9_spells_2 : decode cX9_spells 2 = .ok (.putfield 321, 3) := by decide +kernel
theorem dX9_spells_5 : decode cX9_spells 5 = .ok (.aload_n 0, 1) := by decide +kernel
theorem dX9_spells_6 : decode cX9_spells 6 = .ok (.bipush 48, 2) := by decide +kernel
theorem dX9_spells_8 : decode cX9_spells 8 = .ok (.aload_n 0, 1) := by decide +kernel
theorem dX9_spells_9 : decode cX9_spells 9 = .ok (.getfield 88, 3) := by decide +kernel
theorem dX9_spells_12 : decode cX9_spells 12 = .ok (.iadd, 1) := by decide +kernel
theorem dX9_spells_13 : decode cX9_spells 13 = .ok (.invokevirtual 324, 3) := by decide +kernel
theorem dX9_spells_16 : decode cX9_spells 16 = .ok (.aload_n 0, 1) := by decide +kernel
theorem dX9_spells_17 : decode cX9_spells 17 = .ok (.bipush 58, 2) := by decide +kernel
theorem dX9_spells_19 : decode cX9_spells 19 = .ok (.invokevirtual 324, 3) := by decide +kernel
theorem dX9_spells_22 : decode cX9_spells 22 = .ok (.iconst 0, 1) := by decide +kernel
theorem dX9_spells_23 : decode cX9_spells 23 = .ok (.istore_n 1, 1) := by decide +kernel
theorem dX9_spells_24 : decode cX9_spells 24 = .ok (.iload_n 1, 1) := by decide +kernel
theorem dX9_spells_25 : decode cX9_spells 25 = .ok (.aload_n 0, 1) := by decide +kernel
theorem dX9_spells_26 : decode cX9_spells 26 = .ok (.getfield 91, 3) := by decide +kernel
theorem dX9_spells_29 : decode cX9_spells 29 = .ok (.if_icmp .ge 52, 3) := by decide +kernel
theorem dX9_spells_32 : decode cX9_spells 32 = .ok (.iload_n 1, 1) := by decide +kernel
theorem dX9_spells_33 : decode cX9_spells 33 = .ok (.ifCond .le 9, 3) := by decide +kernel
theorem dX9_spells_36 : decode cX9_spells 36 = .ok (.aload_n 0, 1) := by decide +kernel
theorem dX9_spells_37 : decode cX9_spells 37 = .ok (.bipush 44, 2) := by decide +kernel
theorem dX9_spells_39 : decode cX9_spells 39 = .ok (.invokevirtual 324, 3) := by decide +kernel
theorem dX9_spells_42 : decode cX9_spells 42 = .ok (.aload_n 0, 1) := by decide +kernel
theorem dX9_spells_43 : decode cX9_spells 43 = .ok (.getfield 11, 3) := by decide +kernel
theorem dX9_spells_46 : decode cX9_spells 46 = .ok (.iload_n 1, 1) := by decide +kernel
theorem dX9_spells_47 : decode cX9_spells 47 = .ok (.iaload, 1) := by decide +kernel
theorem dX9_spells_48 : decode cX9_spells 48 = .ok (.bipush 9, 2) := by decide +kernel
theorem dX9_spells_50 : decode cX9_spells 50 = .ok (.if_icmp .le 9, 3) := by decide +kernel
theorem dX9_spells_53 : decode cX9_spells 53 = .ok (.aload_n 0, 1) := by decide +kernel
theorem dX9_spells_54 : decode cX9_spells 54 = .ok (.bipush 49, 2) := by decide +kernel
theorem dX9_spells_56 : decode cX9_spells 56 = .ok (.invokevirtual 324, 3) := by decide +kernel
theorem dX9_spells_59 : decode cX9_spells 59 = .ok (.aload_n 0, 1) := by decide +kernel
theorem dX9_spells_60 : decode cX9_spells 60 = .ok (.bipush 48, 2) := by decide +kernel
theorem dX9_spells_62 : decode cX9_spells 62 = .ok (.aload_n 0, 1) := by decide +kernel
theorem dX9_spells_63 : decode cX9_spells 63 = .ok (.getfield 11, 3) := by decide +kernel
theorem dX9_spells_66 : decode cX9_spells 66 = .ok (.iload_n 1, 1) := by decide +kernel
theorem dX9_spells_67 : decode cX9_spells 67 = .ok (.iaload, 1) := by decide +kernel
theorem dX9_spells_68 : decode cX9_spells 68 = .ok (.bipush 10, 2) := by decide +kernel
theorem dX9_spells_70 : decode cX9_spells 70 = .ok (.irem, 1) := by decide +kernel
theorem dX9_spells_71 : decode cX9_spells 71 = .ok (.iadd, 1) := by decide +kernel
theorem dX9_spells_72 : decode cX9_spells 72 = .ok (.invokevirtual 324, 3) := by decide +kernel
theorem dX9_spells_75 : decode cX9_spells 75 = .ok (.iinc 1 1, 3) := by decide +kernel
theorem dX9_spells_78 : decode cX9_spells 78 = .ok (.goto (-54), 3) := by decide +kernel
theorem dX9_spells_81 : decode cX9_spells 81 = .ok (.aload_n 0, 1) := by decide +kernel
theorem dX9_spells_82 : decode cX9_spells 82 = .ok (.bipush 47, 2) := by decide +kernel
theorem dX9_spells_84 : decode cX9_spells 84 = .ok (.invokevirtual 324, 3) := by decide +kernel
theorem dX9_spells_87 : decode cX9_spells 87 = .ok (.aload_n 0, 1) := by decide +kernel
theorem dX9_spells_88 : decode cX9_spells 88 = .ok (.bipush 48, 2) := by decide +kernel
theorem dX9_spells_90 : decode cX9_spells 90 = .ok (.aload_n 0, 1) := by decide +kernel
theorem dX9_spells_91 : decode cX9_spells 91 = .ok (.getfield 15, 3) := by decide +kernel
theorem dX9_spells_94 : decode cX9_spells 94 = .ok (.iadd, 1) := by decide +kernel
theorem dX9_spells_95 : decode cX9_spells 95 = .ok (.invokevirtual 324, 3) := by decide +kernel
theorem dX9_spells_98 : decode cX9_spells 98 = .ok (.iconst 0, 1) := by decide +kernel
theorem dX9_spells_99 : decode cX9_spells 99 = .ok (.istore_n 1, 1) := by decide +kernel
theorem dX9_spells_100 : decode cX9_spells 100 = .ok (.iload_n 1, 1) := by decide +kernel
theorem dX9_spells_101 : decode cX9_spells 101 = .ok (.aload_n 0, 1) := by decide +kernel
theorem dX9_spells_102 : decode cX9_spells 102 = .ok (.getfield 94, 3) := by decide +kernel
theorem dX9_spells_105 : decode cX9_spells 105 = .ok (.if_icmp .ge 53, 3) := by decide +kernel
theorem dX9_spells_108 : decode cX9_spells 108 = .ok (.aload_n 0, 1) := by decide +kernel
theorem dX9_spells_109 : decode cX9_spells 109 = .ok (.bipush 59, 2) := by decide +kernel
theorem dX9_spells_111 : decode cX9_spells 111 = .ok (.invokevirtual 324, 3) := by decide +kernel
theorem dX9_spells_114 : decode cX9_spells 114 = .ok (.iconst 0, 1) := by decide +kernel
theorem dX9_spells_115 : decode cX9_spells 115 = .ok (.istore_n 2, 1) := by decide +kernel
theorem dX9_spells_116 : decode cX9_spells 116 = .ok (.iload_n 2, 1) := by decide +kernel
theorem dX9_spells_117 : decode cX9_spells 117 = .ok (.aload_n 0, 1) := by decide +kernel
theorem dX9_spells_118 : decode cX9_spells 118 = .ok (.getfield 15, 3) := by decide +kernel
theorem dX9_spells_121 : decode cX9_spells 121 = .ok (.if_icmp .ge 31, 3) := by decide +kernel
theorem dX9_spells_124 : decode cX9_spells 124 = .ok (.aload_n 0, 1) := by decide +kernel
theorem dX9_spells_125 : decode cX9_spells 125 = .ok (.getfield 19, 3) := by decide +kernel
theorem dX9_spells_128 : decode cX9_spells 128 = .ok (.iload_n 1, 1) := by decide +kernel
theorem dX9_spells_129 : decode cX9_spells 129 = .ok (.iaload, 1) := by decide +kernel
theorem dX9_spells_130 : decode cX9_spells 130 = .ok (.iload_n 2, 1) := by decide +kernel
theorem dX9_spells_131 : decode cX9_spells 131 = .ok (.ishr, 1) := by decide +kernel
theorem dX9_spells_132 : decode cX9_spells 132 = .ok (.iconst 1, 1) := by decide +kernel
theorem dX9_spells_133 : decode cX9_spells 133 = .ok (.iand, 1) := by decide +kernel
theorem dX9_spells_134 : decode cX9_spells 134 = .ok (.iconst 1, 1) := by decide +kernel
theorem dX9_spells_135 : decode cX9_spells 135 = .ok (.if_icmp .ne 11, 3) := by decide +kernel
theorem dX9_spells_138 : decode cX9_spells 138 = .ok (.aload_n 0, 1) := by decide +kernel
theorem dX9_spells_139 : decode cX9_spells 139 = .ok (.bipush 48, 2) := by decide +kernel
theorem dX9_spells_141 : decode cX9_spells 141 = .ok (.iload_n 2, 1) := by decide +kernel
theorem dX9_spells_142 : decode cX9_spells 142 = .ok (.iadd, 1) := by decide +kernel
theorem dX9_spells_143 : decode cX9_spells 143 = .ok (.invokevirtual 324, 3) := by decide +kernel
theorem dX9_spells_146 : decode cX9_spells 146 = .ok (.iinc 2 1, 3) := by decide +kernel
theorem dX9_spells_149 : decode cX9_spells 149 = .ok (.goto (-33), 3) := by decide +kernel
theorem dX9_spells_152 : decode cX9_spells 152 = .ok (.iinc 1 1, 3) := by decide +kernel
theorem dX9_spells_155 : decode cX9_spells 155 = .ok (.goto (-55), 3) := by decide +kernel
theorem dX9_spells_158 : decode cX9_spells 158 = .ok (.return_, 1) := by decide +kernel
set_option maxRecDepth 20000 in
theorem ggX9_spell_X9_spells : GoodIn wsX9_spell wsX9_spells := goodIn_r _ [7, 1, 8, 9, 10, 11, 12, 13, 14, 15, 16, 6, 17, 2, 18, 19, 20, 21, 22, 23, 24, 25, 26, 27, 28, 29, 30, 31, 32, 33, 34, 35, 36, 37, 38, 39, 40, 41, 42, 43, 44, 45, 46, 47, 48, 49, 50, 51, 52, 53, 54, 55, 56, 57, 58, 59] (by decide +kernel) (by decide +kernel)
set_option maxRecDepth 20000 in
theorem gX9_spell_X9_spells : GoodIn wsX9_spell (wsV RX9 327 RX9 yX9_spells wsX9_spells) := goodIn_app (goodIn_of _ (by decide +kernel)) ggX9_spell_X9_spells
theorem dX9_spell_0 : decode cX9_spell 0 = .ok (.iload_n 1, 1) := by decide +kernel
theorem dX9_spell_1 : decode cX9_spell 1 = .ok (.iconst (-1), 1) := by decide +kernel
theorem dX9_spell_2 : decode cX9_spell 2 = .ok (.if_icmp .ge 5, 3) := by decide +kernel
theorem dX9_spell_5 : decode cX9_spell 5 = .ok (.iconst (-1), 1) := by decide +kernel
theorem dX9_spell_6 : decode cX9_spell 6 = .ok (.ireturn, 1) := by decide +kernel
theorem dX9_spell_7 : decode cX9_spell 7 = .ok (.aload_n 0, 1) := by decide +kernel
theorem dX9_spell_8 : decode cX9_spell 8 = .ok (.invokevirtual 327, 3) := by decide +kernel
theorem dX9_spell_11 : decode cX9_spell 11 = .ok (.iload_n 1, 1) := by decide +kernel
theorem dX9_spell_12 : decode cX9_spell 12 = .ok (.iconst (-1), 1) := by decide +kernel
theorem dX9_spell_13 : decode cX9_spell 13 = .ok (.if_icmp .ne 10, 3) := by decide +kernel
theorem dX9_spell_16 : decode cX9_spell 16 = .ok (.aload_n 0, 1) := by decide +kernel
theorem dX9_spell_17 : decode cX9_spell 17 = .ok (.getfield 321, 3) := by decide +kernel
theorem dX9_spell_20 : decode cX9_spell 20 = .ok (.goto 22, 3) := by decide +kernel
theorem dX9_spell_23 : decode cX9_spell 23 = .ok (.iload_n 1, 1) := by decide +kernel
theorem dX9_spell_24 : decode cX9_spell 24 = .ok (.aload_n 0, 1) := by decide +kernel
theorem dX9_spell_25 : decode cX9_spell 25 = .ok (.getfield 321, 3) := by decide +kernel
theorem dX9_spell_28 : decode cX9_spell 28 = .ok (.if_icmp .ge 12, 3) := by decide +kernel
theorem dX9_spell_31 : decode cX9_spell 31 = .ok (.aload_n 0, 1) := by decide +kernel
theorem dX9_spell_32 : decode cX9_spell 32 = .ok (.getfield 62, 3) := by decide +kernel
theorem dX9_spell_35 : decode cX9_spell 35 = .ok (.iload_n 1, 1) := by decide +kernel
theorem dX9_spell_36 : decode cX9_spell 36 = .ok (.iaload, 1) := by decide +kernel
theorem dX9_spell_37 : decode cX9_spell 37 = .ok (.goto 5, 3) := by decide +kernel
theorem dX9_spell_40 : decode cX9_spell 40 = .ok (.bipush (-2), 2) := by decide +kernel
theorem dX9_spell_42 : decode cX9_spell 42 = .ok (.ireturn, 1) := by decide +kernel
set_option maxRecDepth 20000 in
theorem ggX9_isHolder_X9_in : GoodIn wsX9_isHolder wsX9_in := goodIn_r _ [5] (by decide +kernel) (by decide +kernel)
set_option maxRecDepth 20000 in
theorem gX9_isHolder_X9_in : GoodIn wsX9_isHolder (va_wsS RX9 110 yX9_in wsX9_in) := goodIn_app (goodIn_of _ (by decide +kernel)) ggX9_isHolder_X9_in
theorem dX9_isHolder_0 : decode cX9_isHolder 0 = .ok (.iload_n 0, 1) := by decide +kernel
theorem dX9_isHolder_1 : decode cX9_isHolder 1 = .ok (.i2l, 1) := by decide +kernel
theorem dX9_isHolder_2 : decode cX9_isHolder 2 = .ok (.lconst 0, 1) := by decide +kernel
theorem dX9_isHolder_3 : decode cX9_isHolder 3 = .ok (.ldc2_w 144, 3) := by decide +kernel
theorem dX9_isHolder_6 : decode cX9_isHolder 6 = .ok (.invokestatic 110, 3) := by decide +kernel
theorem dX9_isHolder_9 : decode cX9_isHolder 9 = .ok (.ireturn, 1) := by decide +kernel
set_option maxRecDepth 20000 in
theorem ggX9_hold_X9_isHolder : GoodIn wsX9_hold wsX9_isHolder := goodIn_r _ [14, 15, 16, 17, 13, 18] (by decide +kernel) (by decide +kernel)
set_option maxRecDepth 20000 in
theorem gX9_hold_X9_isHolder : GoodIn wsX9_hold (va_wsS RX9 330 yX9_isHolder wsX9_isHolder) := goodIn_app (goodIn_of _ (by decide +kernel)) ggX9_hold_X9_isHolder
set_option maxRecDepth 20000 in
theorem ggX9_hold_X9_in : GoodIn wsX9_hold wsX9_in := goodIn_r _ [18] (by decide +kernel) (by decide +kernel)
set_option maxRecDepth 20000 in
theorem gX9_hold_X9_in : GoodIn wsX9_hold (va_wsS RX9 110 yX9_in wsX9_in) := goodIn_app (goodIn_of _ (by decide +kernel)) ggX9_hold_X9_in
set_option maxRecDepth 20000 in
theorem ggX9_hold_X9_number : GoodIn wsX9_hold wsX9_number := goodIn_r _ [22, 23, 24, 16, 17, 13, 18, 25, 26, 27, 28, 4, 29, 30, 31, 32, 33, 34, 35, 36, 37, 38, 39, 40, 41, 42, 43, 44, 45, 46, 15, 47, 48, 49, 50, 51, 52, 53, 54, 55, 56, 57, 58, 59, 60, 61, 62, 63, 64, 65, 66, 67, 68, 69, 70, 71, 72, 73, 74, 75, 76, 77, 78, 79, 80, 81, 82, 83, 84, 85, 86, 87, 88, 89, 90, 91, 92, 93, 94, 95, 96, 97, 98, 99, 100, 101, 102, 103, 104, 105, 106, 107] (by decide +kernel) (by decide +kernel)
set_option maxRecDepth 20000 in
theorem gX9_hold_X9_number : GoodIn wsX9_hold (wsV RX9 333 RX9 yX9_number wsX9_number) := goodIn_app (goodIn_of _ (by decide +kernel)) ggX9_hold_X9_number
theorem dX9_hold_0 : decode cX9_hold 0 = .ok (.iload_n 1, 1) := by decide +kernel
theorem dX9_hold_1 : decode cX9_hold 1 = .ok (.invokestatic 330, 3) := by decide +kernel
theorem dX9_hold_4 : decode cX9_hold 4 = .ok (.ifCond .eq 13, 3) := by decide +kernel
theorem dX9_hold_7 : decode cX9_hold 7 = .ok (.iload_n 2, 1) := by decide +kernel
theorem dX9_hold_8 : decode cX9_hold 8 = .ok (.i2l, 1) := by decide +kernel
theorem dX9_hold_9 : decode cX9_hold 9 = .ok (.lconst 0, 1) := by decide +kernel
theorem dX9_hold_10 : decode cX9_hold 10 = .ok (.lconst 1, 1) := by decide +kernel
theorem dX9_hold_11 : decode cX9_hold 11 = .ok (.invokestatic 110, 3) := by decide +kernel
theorem dX9_hold_14 : decode cX9_hold 14 = .ok (.ifCond .ne 5, 3) := by decide +kernel
theorem dX9_hold_17 : decode cX9_hold 17 = .ok (.iconst (-1), 1) := by decide +kernel
theorem dX9_hold_18 : decode cX9_hold 18 = .ok (.ireturn, 1) := by decide +kernel
theorem dX9_hold_19 : decode cX9_hold 19 = .ok (.aload_n 0, 1) := by decide +kernel
theorem dX9_hold_20 : decode cX9_hold 20 = .ok (.getfield 65, 3) := by decide +kernel
theorem dX9_hold_23 : decode cX9_hold 23 = .ok (.iload_n 1, 1) := by decide +kernel
theorem dX9_hold_24 : decode cX9_hold 24 = .ok (.iload_n 2, 1) := by decide +kernel
theorem dX9_hold_25 : decode cX9_hold 25 = .ok (.iconst 1, 1) := by decide +kernel
theorem dX9_hold_26 : decode cX9_hold 26 = .ok (.iadd, 1) := by decide +kernel
theorem dX9_hold_27 : decode cX9_hold 27 = .ok (.iastore, 1) := by decide +kernel
theorem dX9_hold_28 : decode cX9_hold 28 = .ok (.iload_n 2, 1) := by decide +kernel
theorem dX9_hold_29 : decode cX9_hold 29 = .ok (.ifCond .ne 59, 3) := by decide +kernel
theorem dX9_hold_32 : decode cX9_hold 32 = .ok (.aload_n 0, 1) := by decide +kernel
theorem dX9_hold_33 : decode cX9_hold 33 = .ok (.getfield 68, 3) := by decide +kernel
theorem dX9_hold_36 : decode cX9_hold 36 = .ok (.iload_n 1, 1) := by decide +kernel
theorem dX9_hold_37 : decode cX9_hold 37 = .ok (.aload_n 0, 1) := by decide +kernel
theorem dX9_hold_38 : decode cX9_hold 38 = .ok (.iconst 0, 1) := by decide +kernel
theorem dX9_hold_39 : decode cX9_hold 39 = .ok (.invokevirtual 333, 3) := by decide +kernel
theorem dX9_hold_42 : decode cX9_hold 42 = .ok (.ldc2_w 336, 3) := by decide +kernel
theorem dX9_hold_45 : decode cX9_hold 45 = .ok (.lrem, 1) := by decide +kernel
theorem dX9_hold_46 : decode cX9_hold 46 = .ok (.lastore, 1) := by decide +kernel
theorem dX9_hold_47 : decode cX9_hold 47 = .ok (.aload_n 0, 1) := by decide +kernel
theorem dX9_hold_48 : decode cX9_hold 48 = .ok (.getfield 68, 3) := by decide +kernel
theorem dX9_hold_51 : decode cX9_hold 51 = .ok (.iload_n 1, 1) := by decide +kernel
theorem dX9_hold_52 : decode cX9_hold 52 = .ok (.aload_n 0, 1) := by decide +kernel
theorem dX9_hold_53 : decode cX9_hold 53 = .ok (.getfield 68, 3) := by decide +kernel
theorem dX9_hold_56 : decode cX9_hold 56 = .ok (.iload_n 1, 1) := by decide +kernel
theorem dX9_hold_57 : decode cX9_hold 57 = .ok (.laload, 1) := by decide +kernel
theorem dX9_hold_58 : decode cX9_hold 58 = .ok (.lconst 0, 1) := by decide +kernel
theorem dX9_hold_59 : decode cX9_hold 59 = .ok (.lcmp, 1) := by decide +kernel
theorem dX9_hold_60 : decode cX9_hold 60 = .ok (.ifCond .ge 16, 3) := by decide +kernel
theorem dX9_hold_63 : decode cX9_hold 63 = .ok (.aload_n 0, 1) := by decide +kernel
theorem dX9_hold_64 : decode cX9_hold 64 = .ok (.getfield 68, 3) := by decide +kernel
theorem dX9_hold_67 : decode cX9_hold 67 = .ok (.iload_n 1, 1) := by decide +kernel
theorem dX9_hold_68 : decode cX9_hold 68 = .ok (.laload, 1) := by decide +kernel
theorem dX9_hold_69 : decode cX9_hold 69 = .ok (.ldc2_w 336, 3) := by decide +kernel
theorem dX9_hold_72 : decode cX9_hold 72 = .ok (.ladd, 1) := by decide +kernel
theorem dX9_hold_73 : decode cX9_hold 73 = .ok (.goto 9, 3) := by decide +kernel
theorem dX9_hold_76 : decode cX9_hold 76 = .ok (.aload_n 0, 1) := by decide +kernel
theorem dX9_hold_77 : decode cX9_hold 77 = .ok (.getfield 68, 3) := by decide +kernel
theorem dX9_hold_80 : decode cX9_hold 80 = .ok (.iload_n 1, 1) := by decide +kernel
theorem dX9_hold_81 : decode cX9_hold 81 = .ok (.laload, 1) := by decide +kernel
theorem dX9_hold_82 : decode cX9_hold 82 = .ok (.lastore, 1) := by decide +kernel
theorem dX9_hold_83 : decode cX9_hold 83 = .ok (.aload_n 0, 1) := by decide +kernel
theorem dX9_hold_84 : decode cX9_hold 84 = .ok (.getfield 91, 3) := by decide +kernel
theorem dX9_hold_87 : decode cX9_hold 87 = .ok (.ireturn, 1) := by decide +kernel
theorem dX9_hold_88 : decode cX9_hold 88 = .ok (.aload_n 0, 1) := by decide +kernel
theorem dX9_hold_89 : decode cX9_hold 89 = .ok (.getfield 75, 3) := by decide +kernel
theorem dX9_hold_92 : decode cX9_hold 92 = .ok (.iload_n 1, 1) := by decide +kernel
theorem dX9_hold_93 : decode cX9_hold 93 = .ok (.aload_n 0, 1) := by decide +kernel
theorem dX9_hold_94 : decode cX9_hold 94 = .ok (.getfield 15, 3) := by decide +kernel
theorem dX9_hold_97 : decode cX9_hold 97 = .ok (.iastore, 1) := by decide +kernel
theorem dX9_hold_98 : decode cX9_hold 98 = .ok (.aload_n 0, 1) := by decide +kernel
theorem dX9_hold_99 : decode cX9_hold 99 = .ok (.getfield 72, 3) := by decide +kernel
theorem dX9_hold_102 : decode cX9_hold 102 = .ok (.iload_n 1, 1) := by decide +kernel
theorem dX9_hold_103 : decode cX9_hold 103 = .ok (.aload_n 0, 1) := by decide +kernel
theorem dX9_hold_104 : decode cX9_hold 104 = .ok (.getfield 94, 3) := by decide +kernel
theorem dX9_hold_107 : decode cX9_hold 107 = .ok (.iastore, 1) := by decide +kernel
theorem dX9_hold_108 : decode cX9_hold 108 = .ok (.iconst 0, 1) := by decide +kernel
theorem dX9_hold_109 : decode cX9_hold 109 = .ok (.istore_n 3, 1) := by decide +kernel
theorem dX9_hold_110 : decode cX9_hold 110 = .ok (.iload_n 3, 1) := by decide +kernel
theorem dX9_hold_111 : decode cX9_hold 111 = .ok (.aload_n 0, 1) := by decide +kernel
theorem dX9_hold_112 : decode cX9_hold 112 = .ok (.getfield 94, 3) := by decide +kernel
theorem dX9_hold_115 : decode cX9_hold 115 = .ok (.if_icmp .ge 26, 3) := by decide +kernel
theorem dX9_hold_118 : decode cX9_hold 118 = .ok (.aload_n 0, 1) := by decide +kernel
theorem dX9_hold_119 : decode cX9_hold 119 = .ok (.getfield 78, 3) := by decide +kernel
theorem dX9_hold_122 : decode cX9_hold 122 = .ok (.bipush 20, 2) := by decide +kernel
theorem dX9_hold_124 : decode cX9_hold 124 = .ok (.iload_n 1, 1) := by decide +kernel
theorem dX9_hold_125 : decode cX9_hold 125 = .ok (.imul, 1) := by decide +kernel
theorem dX9_hold_126 : decode cX9_hold 126 = .ok (.iload_n 3, 1) := by decide +kernel
theorem dX9_hold_127 : decode cX9_hold 127 = .ok (.iadd, 1) := by decide +kernel
theorem dX9_hold_128 : decode cX9_hold 128 = .ok (.aload_n 0, 1) := by decide +kernel
theorem dX9_hold_129 : decode cX9_hold 129 = .ok (.getfield 19, 3) := by decide +kernel
theorem dX9_hold_132 : decode cX9_hold 132 = .ok (.iload_n 3, 1) := by decide +kernel
theorem dX9_hold_133 : decode cX9_hold 133 = .ok (.iaload, 1) := by decide +kernel
theorem dX9_hold_134 : decode cX9_hold 134 = .ok (.iastore, 1) := by decide +kernel
theorem dX9_hold_135 : decode cX9_hold 135 = .ok (.iinc 3 1, 3) := by decide +kernel
theorem dX9_hold_138 : decode cX9_hold 138 = .ok (.goto (-28), 3) := by decide +kernel
theorem dX9_hold_141 : decode cX9_hold 141 = .ok (.aload_n 0, 1) := by decide +kernel
theorem dX9_hold_142 : decode cX9_hold 142 = .ok (.getfield 94, 3) := by decide +kernel
theorem dX9_hold_145 : decode cX9_hold 145 = .ok (.ireturn, 1) := by decide +kernel
set_option maxRecDepth 20000 in
theorem ggX9_lose_X9_isHolder : GoodIn wsX9_lose wsX9_isHolder := goodIn_r _ [5, 6, 7, 8, 4, 9] (by decide +kernel) (by decide +kernel)
set_option maxRecDepth 20000 in
theorem gX9_lose_X9_isHolder : GoodIn wsX9_lose (va_wsS RX9 330 yX9_isHolder wsX9_isHolder) := goodIn_app (goodIn_of _ (by decide +kernel)) ggX9_lose_X9_isHolder
theorem dX9_lose_0 : decode cX9_lose 0 = .ok (.iload_n 1, 1) := by decide +kernel
theorem dX9_lose_1 : decode cX9_lose 1 = .ok (.invokestatic 330, 3) := by decide +kernel
theorem dX9_lose_4 : decode cX9_lose 4 = .ok (.ifCond .ne 5, 3) := by decide +kernel
theorem dX9_lose_7 : decode cX9_lose 7 = .ok (.iconst (-1), 1) := by decide +kernel
theorem dX9_lose_8 : decode cX9_lose 8 = .ok (.ireturn, 1) := by decide +kernel
theorem dX9_lose_9 : decode cX9_lose 9 = .ok (.aload_n 0, 1) := by decide +kernel
theorem dX9_lose_10 : decode cX9_lose 10 = .ok (.getfield 65, 3) := by decide +kernel
theorem dX9_lose_13 : decode cX9_lose 13 = .ok (.iload_n 1, 1) := by decide +kernel
theorem dX9_lose_14 : decode cX9_lose 14 = .ok (.iaload, 1) := by decide +kernel
theorem dX9_lose_15 : decode cX9_lose 15 = .ok (.istore_n 2, 1) := by decide +kernel
theorem dX9_lose_16 : decode cX9_lose 16 = .ok (.aload_n 0, 1) := by decide +kernel
theorem dX9_lose_17 : decode cX9_lose 17 = .ok (.getfield 65, 3) := by decide +kernel
theorem dX9_lose_20 : decode cX9_lose 20 = .ok (.iload_n 1, 1) := by decide +kernel
theorem dX9_lose_21 : decode cX9_lose 21 = .ok (.iconst 0, 1) := by decide +kernel
theorem dX9_lose_22 : decode cX9_lose 22 = .ok (.iastore, 1) := by decide +kernel
theorem dX9_lose_23 : decode cX9_lose 23 = .ok (.iload_n 2, 1) := by decide +kernel
theorem dX9_lose_24 : decode cX9_lose 24 = .ok (.ireturn, 1) := by decide +kernel
theorem dX9_isFull_0 : decode cX9_isFull 0 = .ok (.aload_n 0, 1) := by decide +kernel
theorem dX9_isFull_1 : decode cX9_isFull 1 = .ok (.getfield 72, 3) := by decide +kernel
theorem dX9_isFull_4 : decode cX9_isFull 4 = .ok (.iload_n 1, 1) := by decide +kernel
theorem dX9_isFull_5 : decode cX9_isFull 5 = .ok (.iaload, 1) := by decide +kernel
theorem dX9_isFull_6 : decode cX9_isFull 6 = .ok (.aload_n 0, 1) := by decide +kernel
theorem dX9_isFull_7 : decode cX9_isFull 7 = .ok (.getfield 75, 3) := by decide +kernel
theorem dX9_isFull_10 : decode cX9_isFull 10 = .ok (.iload_n 1, 1) := by decide +kernel
theorem dX9_isFull_11 : decode cX9_isFull 11 = .ok (.iaload, 1) := by decide +kernel
theorem dX9_isFull_12 : decode cX9_isFull 12 = .ok (.iconst 3, 1) := by decide +kernel
theorem dX9_isFull_13 : decode cX9_isFull 13 = .ok (.isub, 1) := by decide +kernel
theorem dX9_isFull_14 : decode cX9_isFull 14 = .ok (.if_icmp .ne 7, 3) := by decide +kernel
theorem dX9_isFull_17 : decode cX9_isFull 17 = .ok (.iconst 1, 1) := by decide +kernel
theorem dX9_isFull_18 : decode cX9_isFull 18 = .ok (.goto 4, 3) := by decide +kernel
theorem dX9_isFull_21 : decode cX9_isFull 21 = .ok (.iconst 0, 1) := by decide +kernel
theorem dX9_isFull_22 : decode cX9_isFull 22 = .ok (.ireturn, 1) := by decide +kernel
set_option maxRecDepth 20000 in
theorem ggX9_taken_X9_isHolder : GoodIn wsX9_taken wsX9_isHolder := goodIn_r _ [9, 10, 11, 12, 8, 13] (by decide +kernel) (by decide +kernel)
set_option maxRecDepth 20000 in
theorem gX9_taken_X9_isHolder : GoodIn wsX9_taken (va_wsS RX9 330 yX9_isHolder wsX9_isHolder) := goodIn_app (goodIn_of _ (by decide +kernel)) ggX9_taken_X9_isHolder
set_option maxRecDepth 20000 in
theorem ggX9_taken_X9_in : GoodIn wsX9_taken wsX9_in := goodIn_r _ [13] (by decide +kernel) (by decide +kernel)
set_option maxRecDepth 20000 in
theorem gX9_taken_X9_in : GoodIn wsX9_taken (va_wsS RX9 110 yX9_in wsX9_in) := goodIn_app (goodIn_of _ (by decide +kernel)) ggX9_taken_X9_in
set_option maxRecDepth 20000 in
theorem ggX9_taken_X9_isFull : GoodIn wsX9_taken wsX9_isFull := goodIn_r _ [17, 4, 5, 18, 19, 20, 21, 22, 23, 24, 25, 26, 27, 28, 29, 30, 31, 32, 33, 34, 35, 36, 37, 38, 39, 40, 41, 42, 43, 44, 45, 46, 47, 48, 49, 50, 51, 52, 53, 54, 55, 56, 57, 58, 59] (by decide +kernel) (by decide +kernel)
set_option maxRecDepth 20000 in
theorem gX9_taken_X9_isFull : GoodIn wsX9_taken (wsV RX9 338 RX9 yX9_isFull wsX9_isFull) := goodIn_app (goodIn_of _ (by decide +kernel)) ggX9_taken_X9_isFull
theorem dX9_taken_0 : decode cX9_taken 0 = .ok (.iload_n 1, 1) := by decide +kernel
theorem dX9_taken_1 : decode cX9_taken 1 = .ok (.invokestatic 330, 3) := by decide +kernel
theorem dX9_taken_4 : decode cX9_taken 4 = .ok (.ifCond .eq 15, 3) := by decide +kernel
theorem dX9_taken_7 : decode cX9_taken 7 = .ok (.iload_n 2, 1) := by decide +kernel
theorem dX9_taken_8 : decode cX9_taken 8 = .ok (.i2l, 1) := by decide +kernel
theorem dX9_taken_9 : decode cX9_taken 9 = .ok (.lconst 0, 1) := by decide +kernel
theorem dX9_taken_10 : decode cX9_taken 10 = .ok (.ldc2_w 128, 3) := by decide +kernel
theorem dX9_taken_13 : decode cX9_taken 13 = .ok (.invokestatic 110, 3) := by decide +kernel
theorem dX9_taken_16 : decode cX9_taken 16 = .ok (.ifCond .ne 5, 3) := by decide +kernel
theorem dX9_taken_19 : decode cX9_taken 19 = .ok (.iconst (-1), 1) := by decide +kernel
theorem dX9_taken_20 : decode cX9_taken 20 = .ok (.ireturn, 1) := by decide +kernel
theorem dX9_taken_21 : decode cX9_taken 21 = .ok (.aload_n 0, 1) := by decide +kernel
theorem dX9_taken_22 : decode cX9_taken 22 = .ok (.getfield 65, 3) := by decide +kernel
theorem dX9_taken_25 : decode cX9_taken 25 = .ok (.iload_n 1, 1) := by decide +kernel
theorem dX9_taken_26 : decode cX9_taken 26 = .ok (.iaload, 1) := by decide +kernel
theorem dX9_taken_27 : decode cX9_taken 27 = .ok (.ifCond .ne 6, 3) := by decide +kernel
theorem dX9_taken_30 : decode cX9_taken 30 = .ok (.bipush (-11), 2) := by decide +kernel
theorem dX9_taken_32 : decode cX9_taken 32 = .ok (.ireturn, 1) := by decide +kernel
theorem dX9_taken_33 : decode cX9_taken 33 = .ok (.iload_n 2, 1) := by decide +kernel
theorem dX9_taken_34 : decode cX9_taken 34 = .ok (.ifCond .ne 26, 3) := by decide +kernel
theorem dX9_taken_37 : decode cX9_taken 37 = .ok (.aload_n 0, 1) := by decide +kernel
theorem dX9_taken_38 : decode cX9_taken 38 = .ok (.getfield 65, 3) := by decide +kernel
theorem dX9_taken_41 : decode cX9_taken 41 = .ok (.iload_n 1, 1) := by decide +kernel
theorem dX9_taken_42 : decode cX9_taken 42 = .ok (.iaload, 1) := by decide +kernel
theorem dX9_taken_43 : decode cX9_taken 43 = .ok (.iconst 1, 1) := by decide +kernel
theorem dX9_taken_44 : decode cX9_taken 44 = .ok (.if_icmp .ne 13, 3) := by decide +kernel
theorem dX9_taken_47 : decode cX9_taken 47 = .ok (.aload_n 0, 1) := by decide +kernel
theorem dX9_taken_48 : decode cX9_taken 48 = .ok (.getfield 68, 3) := by decide +kernel
theorem dX9_taken_51 : decode cX9_taken 51 = .ok (.iload_n 1, 1) := by decide +kernel
theorem dX9_taken_52 : decode cX9_taken 52 = .ok (.laload, 1) := by decide +kernel
theorem dX9_taken_53 : decode cX9_taken 53 = .ok (.l2i, 1) := by decide +kernel
theorem dX9_taken_54 : decode cX9_taken 54 = .ok (.goto 5, 3) := by decide +kernel
theorem dX9_taken_57 : decode cX9_taken 57 = .ok (.bipush (-12), 2) := by decide +kernel
theorem dX9_taken_59 : decode cX9_taken 59 = .ok (.ireturn, 1) := by decide +kernel
theorem dX9_taken_60 : decode cX9_taken 60 = .ok (.aload_n 0, 1) := by decide +kernel
theorem dX9_taken_61 : decode cX9_taken 61 = .ok (.getfield 65, 3) := by decide +kernel
theorem dX9_taken_64 : decode cX9_taken 64 = .ok (.iload_n 1, 1) := by decide +kernel
theorem dX9_taken_65 : decode cX9_taken 65 = .ok (.iaload, 1) := by decide +kernel
theorem dX9_taken_66 : decode cX9_taken 66 = .ok (.iconst 2, 1) := by decide +kernel
theorem dX9_taken_67 : decode cX9_taken 67 = .ok (.if_icmp .eq 6, 3) := by decide +kernel
theorem dX9_taken_70 : decode cX9_taken 70 = .ok (.bipush (-12), 2) := by decide +kernel
theorem dX9_taken_72 : decode cX9_taken 72 = .ok (.ireturn, 1) := by decide +kernel
theorem dX9_taken_73 : decode cX9_taken 73 = .ok (.iload_n 2, 1) := by decide +kernel
theorem dX9_taken_74 : decode cX9_taken 74 = .ok (.iconst 1, 1) := by decide +kernel
theorem dX9_taken_75 : decode cX9_taken 75 = .ok (.if_icmp .ne 10, 3) := by decide +kernel
theorem dX9_taken_78 : decode cX9_taken 78 = .ok (.aload_n 0, 1) := by decide +kernel
theorem dX9_taken_79 : decode cX9_taken 79 = .ok (.getfield 72, 3) := by decide +kernel
theorem dX9_taken_82 : decode cX9_taken 82 = .ok (.iload_n 1, 1) := by decide +kernel
theorem dX9_taken_83 : decode cX9_taken 83 = .ok (.iaload, 1) := by decide +kernel
theorem dX9_taken_84 : decode cX9_taken 84 = .ok (.ireturn, 1) := by decide +kernel
theorem dX9_taken_85 : decode cX9_taken 85 = .ok (.iload_n 2, 1) := by decide +kernel
theorem dX9_taken_86 : decode cX9_taken 86 = .ok (.iconst 2, 1) := by decide +kernel
theorem dX9_taken_87 : decode cX9_taken 87 = .ok (.if_icmp .ne 11, 3) := by decide +kernel
theorem dX9_taken_90 : decode cX9_taken 90 = .ok (.aload_n 0, 1) := by decide +kernel
theorem dX9_taken_91 : decode cX9_taken 91 = .ok (.iload_n 1, 1) := by decide +kernel
theorem dX9_taken_92 : decode cX9_taken 92 = .ok (.invokevirtual 338, 3) := by decide +kernel
theorem dX9_taken_95 : decode cX9_taken 95 = .ok (.goto 25, 3) := by decide +kernel
theorem dX9_taken_98 : decode cX9_taken 98 = .ok (.aload_n 0, 1) := by decide +kernel
theorem dX9_taken_99 : decode cX9_taken 99 = .ok (.iload_n 1, 1) := by decide +kernel
theorem dX9_taken_100 : decode cX9_taken 100 = .ok (.invokevirtual 338, 3) := by decide +kernel
theorem dX9_taken_103 : decode cX9_taken 103 = .ok (.ifCond .ne 16, 3) := by decide +kernel
theorem dX9_taken_106 : decode cX9_taken 106 = .ok (.aload_n 0, 1) := by decide +kernel
theorem dX9_taken_107 : decode cX9_taken 107 = .ok (.getfield 72, 3) := by decide +kernel
theorem dX9_taken_110 : decode cX9_taken 110 = .ok (.iload_n 1, 1) := by decide +kernel
theorem dX9_taken_111 : decode cX9_taken 111 = .ok (.iaload, 1) := by decide +kernel
theorem dX9_taken_112 : decode cX9_taken 112 = .ok (.ifCond .ne 7, 3) := by decide +kernel
theorem dX9_taken_115 : decode cX9_taken 115 = .ok (.iconst 1, 1) := by decide +kernel
theorem dX9_taken_116 : decode cX9_taken 116 = .ok (.goto 4, 3) := by decide +kernel
theorem dX9_taken_119 : decode cX9_taken 119 = .ok (.iconst 0, 1) := by decide +kernel
theorem dX9_taken_120 : decode cX9_taken 120 = .ok (.istore_n 3, 1) := by decide +kernel
theorem dX9_taken_121 : decode cX9_taken 121 = .ok (.iload_n 3, 1) := by decide +kernel
theorem dX9_taken_122 : decode cX9_taken 122 = .ok (.ifCond .eq 12, 3) := by decide +kernel
theorem dX9_taken_125 : decode cX9_taken 125 = .ok (.aload_n 0, 1) := by decide +kernel
theorem dX9_taken_126 : decode cX9_taken 126 = .ok (.getfield 75, 3) := by decide +kernel
theorem dX9_taken_129 : decode cX9_taken 129 = .ok (.iload_n 1, 1) := by decide +kernel
theorem dX9_taken_130 : decode cX9_taken 130 = .ok (.iaload, 1) := by decide +kernel
theorem dX9_taken_131 : decode cX9_taken 131 = .ok (.goto 5, 3) := by decide +kernel
theorem dX9_taken_134 : decode cX9_taken 134 = .ok (.bipush (-12), 2) := by decide +kernel
theorem dX9_taken_136 : decode cX9_taken 136 = .ok (.ireturn, 1) := by decide +kernel
set_option maxRecDepth 20000 in
theorem ggX9_common__X9_isHolder : GoodIn wsX9_common_ wsX9_isHolder := goodIn_r _ [9, 10, 11, 12, 8, 13] (by decide +kernel) (by decide +kernel)
set_option maxRecDepth 20000 in
theorem gX9_common__X9_isHolder : GoodIn wsX9_common_ (va_wsS RX9 330 yX9_isHolder wsX9_isHolder) := goodIn_app (goodIn_of _ (by decide +kernel)) ggX9_common__X9_isHolder
set_option maxRecDepth 20000 in
theorem ggX9_common__X9_placeOf : GoodIn wsX9_common_ wsX9_placeOf := goodIn_r _ [17, 18, 19, 20, 21, 22, 23, 24, 25, 26, 27, 28, 29, 30, 31, 32, 33, 34, 35, 36, 37, 38, 39, 40, 41, 42, 43, 44, 45, 46, 47, 48, 49, 50, 51, 52, 53, 54, 55, 56, 57, 58, 59, 60, 61] (by decide +kernel) (by decide +kernel)
set_option maxRecDepth 20000 in
theorem gX9_common__X9_placeOf : GoodIn wsX9_common_ (wsV RX9 226 RX9 yX9_placeOf wsX9_placeOf) := goodIn_app (goodIn_of _ (by decide +kernel)) ggX9_common__X9_placeOf
theorem dX9_common__0 : decode cX9_common_ 0 = .ok (.iload_n 1, 1) := by decide +kernel
theorem dX9_common__1 : decode cX9_common_ 1 = .ok (.invokestatic 330, 3) := by decide +kernel
theorem dX9_common__4 : decode cX9_common_ 4 = .ok (.ifCond .ne 5, 3) := by decide +kernel
theorem dX9_common__7 : decode cX9_common_ 7 = .ok (.iconst (-1), 1) := by decide +kernel
theorem dX9_common__8 : decode cX9_common_ 8 = .ok (.ireturn, 1) := by decide +kernel
theorem dX9_common__9 : decode cX9_common_ 9 = .ok (.aload_n 0, 1) := by decide +kernel
theorem dX9_common__10 : decode cX9_common_ 10 = .ok (.getfield 65, 3) := by decide +kernel
theorem dX9_common__13 : decode cX9_common_ 13 = .ok (.iload_n 1, 1) := by decide +kernel
theorem dX9_common__14 : decode cX9_common_ 14 = .ok (.iaload, 1) := by decide +kernel
theorem dX9_common__15 : decode cX9_common_ 15 = .ok (.iconst 2, 1) := by decide +kernel
theorem dX9_common__16 : decode cX9_common_ 16 = .ok (.if_icmp .eq 20, 3) := by decide +kernel
theorem dX9_common__19 : decode cX9_common_ 19 = .ok (.aload_n 0, 1) := by decide +kernel
theorem dX9_common__20 : decode cX9_common_ 20 = .ok (.getfield 65, 3) := by decide +kernel
theorem dX9_common__23 : decode cX9_common_ 23 = .ok (.iload_n 1, 1) := by decide +kernel
theorem dX9_common__24 : decode cX9_common_ 24 = .ok (.iaload, 1) := by decide +kernel
theorem dX9_common__25 : decode cX9_common_ 25 = .ok (.ifCond .ne 8, 3) := by decide +kernel
theorem dX9_common__28 : decode cX9_common_ 28 = .ok (.bipush (-11), 2) := by decide +kernel
theorem dX9_common__30 : decode cX9_common_ 30 = .ok (.goto 5, 3) := by decide +kernel
theorem dX9_common__33 : decode cX9_common_ 33 = .ok (.bipush (-12), 2) := by decide +kernel
theorem dX9_common__35 : decode cX9_common_ 35 = .ok (.ireturn, 1) := by decide +kernel
theorem dX9_common__36 : decode cX9_common_ 36 = .ok (.aload_n 0, 1) := by decide +kernel
theorem dX9_common__37 : decode cX9_common_ 37 = .ok (.getfield 75, 3) := by decide +kernel
theorem dX9_common__40 : decode cX9_common_ 40 = .ok (.iload_n 1, 1) := by decide +kernel
theorem dX9_common__41 : decode cX9_common_ 41 = .ok (.iaload, 1) := by decide +kernel
theorem dX9_common__42 : decode cX9_common_ 42 = .ok (.aload_n 0, 1) := by decide +kernel
theorem dX9_common__43 : decode cX9_common_ 43 = .ok (.getfield 15, 3) := by decide +kernel
theorem dX9_common__46 : decode cX9_common_ 46 = .ok (.if_icmp .eq 6, 3) := by decide +kernel
theorem dX9_common__49 : decode cX9_common_ 49 = .ok (.bipush (-5), 2) := by decide +kernel
theorem dX9_common__51 : decode cX9_common_ 51 = .ok (.ireturn, 1) := by decide +kernel
theorem dX9_common__52 : decode cX9_common_ 52 = .ok (.iconst 0, 1) := by decide +kernel
theorem dX9_common__53 : decode cX9_common_ 53 = .ok (.istore_n 2, 1) := by decide +kernel
theorem dX9_common__54 : decode cX9_common_ 54 = .ok (.iconst 0, 1) := by decide +kernel
theorem dX9_common__55 : decode cX9_common_ 55 = .ok (.istore_n 3, 1) := by decide +kernel
theorem dX9_common__56 : decode cX9_common_ 56 = .ok (.iload_n 3, 1) := by decide +kernel
theorem dX9_common__57 : decode cX9_common_ 57 = .ok (.aload_n 0, 1) := by decide +kernel
theorem dX9_common__58 : decode cX9_common_ 58 = .ok (.getfield 72, 3) := by decide +kernel
theorem dX9_common__61 : decode cX9_common_ 61 = .ok (.iload_n 1, 1) := by decide +kernel
theorem dX9_common__62 : decode cX9_common_ 62 = .ok (.iaload, 1) := by decide +kernel
theorem dX9_common__63 : decode cX9_common_ 63 = .ok (.if_icmp .ge 35, 3) := by decide +kernel
theorem dX9_common__66 : decode cX9_common_ 66 = .ok (.iload_n 2, 1) := by decide +kernel
theorem dX9_common__67 : decode cX9_common_ 67 = .ok (.aload_n 0, 1) := by decide +kernel
theorem dX9_common__68 : decode cX9_common_ 68 = .ok (.aload_n 0, 1) := by decide +kernel
theorem dX9_common__69 : decode cX9_common_ 69 = .ok (.getfield 78, 3) := by decide +kernel
theorem dX9_common__72 : decode cX9_common_ 72 = .ok (.bipush 20, 2) := by decide +kernel
theorem dX9_common__74 : decode cX9_common_ 74 = .ok (.iload_n 1, 1) := by decide +kernel
theorem dX9_common__75 : decode cX9_common_ 75 = .ok (.imul, 1) := by decide +kernel
theorem dX9_common__76 : decode cX9_common_ 76 = .ok (.iload_n 3, 1) := by decide +kernel
theorem dX9_common__77 : decode cX9_common_ 77 = .ok (.iadd, 1) := by decide +kernel
theorem dX9_common__78 : decode cX9_common_ 78 = .ok (.iaload, 1) := by decide +kernel
theorem dX9_common__79 : decode cX9_common_ 79 = .ok (.invokevirtual 226, 3) := by decide +kernel
theorem dX9_common__82 : decode cX9_common_ 82 = .ok (.ifCond .lt 7, 3) := by decide +kernel
theorem dX9_common__85 : decode cX9_common_ 85 = .ok (.iconst 1, 1) := by decide +kernel
theorem dX9_common__86 : decode cX9_common_ 86 = .ok (.goto 4, 3) := by decide +kernel
theorem dX9_common__89 : decode cX9_common_ 89 = .ok (.iconst 0, 1) := by decide +kernel
theorem dX9_common__90 : decode cX9_common_ 90 = .ok (.iadd, 1) := by decide +kernel
theorem dX9_common__91 : decode cX9_common_ 91 = .ok (.istore_n 2, 1) := by decide +kernel
theorem dX9_common__92 : decode cX9_common_ 92 = .ok (.iinc 3 1, 3) := by decide +kernel
theorem dX9_common__95 : decode cX9_common_ 95 = .ok (.goto (-39), 3) := by decide +kernel
theorem dX9_common__98 : decode cX9_common_ 98 = .ok (.iload_n 2, 1) := by decide +kernel
theorem dX9_common__99 : decode cX9_common_ 99 = .ok (.ireturn, 1) := by decide +kernel
set_option maxRecDepth 20000 in
theorem ggX9_row_X9_isHolder : GoodIn wsX9_row wsX9_isHolder := goodIn_r _ [7, 8, 9, 10, 6, 11] (by decide +kernel) (by decide +kernel)
set_option maxRecDepth 20000 in
theorem gX9_row_X9_isHolder : GoodIn wsX9_row (va_wsS RX9 330 yX9_isHolder wsX9_isHolder) := goodIn_app (goodIn_of _ (by decide +kernel)) ggX9_row_X9_isHolder
theorem dX9_row_0 : decode cX9_row 0 = .ok (.iload_n 1, 1) := by decide +kernel
theorem dX9_row_1 : decode cX9_row 1 = .ok (.invokestatic 330, 3) := by decide +kernel
theorem dX9_row_4 : decode cX9_row 4 = .ok (.ifCond .eq 9, 3) := by decide +kernel
theorem dX9_row_7 : decode cX9_row 7 = .ok (.iload_n 2, 1) := by decide +kernel
theorem dX9_row_8 : decode cX9_row 8 = .ok (.bipush 20, 2) := by decide +kernel
theorem dX9_row_10 : decode cX9_row 10 = .ok (.if_icmp .le 5, 3) := by decide +kernel
theorem dX9_row_13 : decode cX9_row 13 = .ok (.iconst (-1), 1) := by decide +kernel
theorem dX9_row_14 : decode cX9_row 14 = .ok (.ireturn, 1) := by decide +kernel
theorem dX9_row_15 : decode cX9_row 15 = .ok (.iload_n 2, 1) := by decide +kernel
theorem dX9_row_16 : decode cX9_row 16 = .ok (.ifCond .ge 6, 3) := by decide +kernel
theorem dX9_row_19 : decode cX9_row 19 = .ok (.bipush (-14), 2) := by decide +kernel
theorem dX9_row_21 : decode cX9_row 21 = .ok (.ireturn, 1) := by decide +kernel
theorem dX9_row_22 : decode cX9_row 22 = .ok (.aload_n 0, 1) := by decide +kernel
theorem dX9_row_23 : decode cX9_row 23 = .ok (.getfield 65, 3) := by decide +kernel
theorem dX9_row_26 : decode cX9_row 26 = .ok (.iload_n 1, 1) := by decide +kernel
theorem dX9_row_27 : decode cX9_row 27 = .ok (.iconst 3, 1) := by decide +kernel
theorem dX9_row_28 : decode cX9_row 28 = .ok (.iastore, 1) := by decide +kernel
theorem dX9_row_29 : decode cX9_row 29 = .ok (.aload_n 0, 1) := by decide +kernel
theorem dX9_row_30 : decode cX9_row 30 = .ok (.getfield 72, 3) := by decide +kernel
theorem dX9_row_33 : decode cX9_row 33 = .ok (.iload_n 1, 1) := by decide +kernel
theorem dX9_row_34 : decode cX9_row 34 = .ok (.iload_n 2, 1) := by decide +kernel
theorem dX9_row_35 : decode cX9_row 35 = .ok (.iastore, 1) := by decide +kernel
theorem dX9_row_36 : decode cX9_row 36 = .ok (.iconst 0, 1) := by decide +kernel
theorem dX9_row_37 : decode cX9_row 37 = .ok (.istore_n 3, 1) := by decide +kernel
theorem dX9_row_38 : decode cX9_row 38 = .ok (.iload_n 3, 1) := by decide +kernel
theorem dX9_row_39 : decode cX9_row 39 = .ok (.bipush 20, 2) := by decide +kernel
theorem dX9_row_41 : decode cX9_row 41 = .ok (.if_icmp .ge 21, 3) := by decide +kernel
theorem dX9_row_44 : decode cX9_row 44 = .ok (.aload_n 0, 1) := by decide +kernel
theorem dX9_row_45 : decode cX9_row 45 = .ok (.getfield 78, 3) := by decide +kernel
theorem dX9_row_48 : decode cX9_row 48 = .ok (.bipush 20, 2) := by decide +kernel
theorem dX9_row_50 : decode cX9_row 50 = .ok (.iload_n 1, 1) := by decide +kernel
theorem dX9_row_51 : decode cX9_row 51 = .ok (.imul, 1) := by decide +kernel
theorem dX9_row_52 : decode cX9_row 52 = .ok (.iload_n 3, 1) := by decide +kernel
theorem dX9_row_53 : decode cX9_row 53 = .ok (.iadd, 1) := by decide +kernel
theorem dX9_row_54 : decode cX9_row 54 = .ok (.iconst 0, 1) := by decide +kernel
theorem dX9_row_55 : decode cX9_row 55 = .ok (.iastore, 1) := by decide +kernel
theorem dX9_row_56 : decode cX9_row 56 = .ok (.iinc 3 1, 3) := by decide +kernel
theorem dX9_row_59 : decode cX9_row 59 = .ok (.goto (-21), 3) := by decide +kernel
theorem dX9_row_62 : decode cX9_row 62 = .ok (.iload_n 2, 1) := by decide +kernel
theorem dX9_row_63 : decode cX9_row 63 = .ok (.ireturn, 1) := by decide +kernel
theorem dX9_rowless_0 : decode cX9_rowless 0 = .ok (.aload_n 0, 1) := by decide +kernel
theorem dX9_rowless_1 : decode cX9_rowless 1 = .ok (.getfield 65, 3) := by decide +kernel
theorem dX9_rowless_4 : decode cX9_rowless 4 = .ok (.iload_n 1, 1) := by decide +kernel
theorem dX9_rowless_5 : decode cX9_rowless 5 = .ok (.iaload, 1) := by decide +kernel
theorem dX9_rowless_6 : decode cX9_rowless 6 = .ok (.ifCond .ne 8, 3) := by decide +kernel
theorem dX9_rowless_9 : decode cX9_rowless 9 = .ok (.bipush (-11), 2) := by decide +kernel
theorem dX9_rowless_11 : decode cX9_rowless 11 = .ok (.goto 19, 3) := by decide +kernel
theorem dX9_rowless_14 : decode cX9_rowless 14 = .ok (.aload_n 0, 1) := by decide +kernel
theorem dX9_rowless_15 : decode cX9_rowless 15 = .ok (.getfield 65, 3) := by decide +kernel
theorem dX9_rowless_18 : decode cX9_rowless 18 = .ok (.iload_n 1, 1) := by decide +kernel
theorem dX9_rowless_19 : decode cX9_rowless 19 = .ok (.iaload, 1) := by decide +kernel
theorem dX9_rowless_20 : decode cX9_rowless 20 = .ok (.iconst 3, 1) := by decide +kernel
theorem dX9_rowless_21 : decode cX9_rowless 21 = .ok (.if_icmp .ne 7, 3) := by decide +kernel
theorem dX9_rowless_24 : decode cX9_rowless 24 = .ok (.iconst 0, 1) := by decide +kernel
theorem dX9_rowless_25 : decode cX9_rowless 25 = .ok (.goto 5, 3) := by decide +kernel
theorem dX9_rowless_28 : decode cX9_rowless 28 = .ok (.bipush (-12), 2) := by decide +kernel
theorem dX9_rowless_30 : decode cX9_rowless 30 = .ok (.ireturn, 1) := by decide +kernel
set_option maxRecDepth 20000 in
theorem ggX9_set_X9_isHolder : GoodIn wsX9_set wsX9_isHolder := goodIn_r _ [6, 7, 8, 9, 5, 10] (by decide +kernel) (by decide +kernel)
set_option maxRecDepth 20000 in
theorem gX9_set_X9_isHolder : GoodIn wsX9_set (va_wsS RX9 330 yX9_isHolder wsX9_isHolder) := goodIn_app (goodIn_of _ (by decide +kernel)) ggX9_set_X9_isHolder
set_option maxRecDepth 20000 in
theorem ggX9_set_X9_rowless : GoodIn wsX9_set wsX9_rowless := goodIn_r _ [14, 15, 16, 17, 18, 19, 20, 21, 22, 23, 24, 25, 26, 27, 28, 29, 30, 31, 32, 33, 34, 35, 36, 37, 38, 39, 40, 41, 42, 43, 44, 45, 46, 47, 48, 49, 50, 51, 52, 53, 54, 55, 56, 57] (by decide +kernel) (by decide +kernel)
set_option maxRecDepth 20000 in
theorem gX9_set_X9_rowless : GoodIn wsX9_set (wsV RX9 341 RX9 yX9_rowless wsX9_rowless) := goodIn_app (goodIn_of _ (by decide +kernel)) ggX9_set_X9_rowless
set_option maxRecDepth 20000 in
theorem ggX9_set_X9_in : GoodIn wsX9_set wsX9_in := goodIn_r _ [10] (by decide +kernel) (by decide +kernel)
set_option maxRecDepth 20000 in
theorem gX9_set_X9_in : GoodIn wsX9_set (va_wsS RX9 110 yX9_in wsX9_in) := goodIn_app (goodIn_of _ (by decide +kernel)) ggX9_set_X9_in
theorem dX9_set_0 : decode cX9_set 0 = .ok (.iload_n 1, 1) := by decide +kernel
theorem dX9_set_1 : decode cX9_set 1 = .ok (.invokestatic 330, 3) := by decide +kernel
theorem dX9_set_4 : decode cX9_set 4 = .ok (.ifCond .ne 5, 3) := by decide +kernel
theorem dX9_set_7 : decode cX9_set 7 = .ok (.iconst (-1), 1) := by decide +kernel
theorem dX9_set_8 : decode cX9_set 8 = .ok (.ireturn, 1) := by decide +kernel
theorem dX9_set_9 : decode cX9_set 9 = .ok (.aload_n 0, 1) := by decide +kernel
theorem dX9_set_10 : decode cX9_set 10 = .ok (.iload_n 1, 1) := by decide +kernel
theorem dX9_set_11 : decode cX9_set 11 = .ok (.invokevirtual 341, 3) := by decide +kernel
theorem dX9_set_14 : decode cX9_set 14 = .ok (.ifCond .eq 9, 3) := by decide +kernel
theorem dX9_set_17 : decode cX9_set 17 = .ok (.aload_n 0, 1) := by decide +kernel
theorem dX9_set_18 : decode cX9_set 18 = .ok (.iload_n 1, 1) := by decide +kernel
theorem dX9_set_19 : decode cX9_set 19 = .ok (.invokevirtual 341, 3) := by decide +kernel
theorem dX9_set_22 : decode cX9_set 22 = .ok (.ireturn, 1) := by decide +kernel
theorem dX9_set_23 : decode cX9_set 23 = .ok (.iload_n 2, 1) := by decide +kernel
theorem dX9_set_24 : decode cX9_set 24 = .ok (.i2l, 1) := by decide +kernel
theorem dX9_set_25 : decode cX9_set 25 = .ok (.lconst 0, 1) := by decide +kernel
theorem dX9_set_26 : decode cX9_set 26 = .ok (.aload_n 0, 1) := by decide +kernel
theorem dX9_set_27 : decode cX9_set 27 = .ok (.getfield 72, 3) := by decide +kernel
theorem dX9_set_30 : decode cX9_set 30 = .ok (.iload_n 1, 1) := by decide +kernel
theorem dX9_set_31 : decode cX9_set 31 = .ok (.iaload, 1) := by decide +kernel
theorem dX9_set_32 : decode cX9_set 32 = .ok (.iconst 1, 1) := by decide +kernel
theorem dX9_set_33 : decode cX9_set 33 = .ok (.isub, 1) := by decide +kernel
theorem dX9_set_34 : decode cX9_set 34 = .ok (.i2l, 1) := by decide +kernel
theorem dX9_set_35 : decode cX9_set 35 = .ok (.invokestatic 110, 3) := by decide +kernel
theorem dX9_set_38 : decode cX9_set 38 = .ok (.ifCond .ne 6, 3) := by decide +kernel
theorem dX9_set_41 : decode cX9_set 41 = .ok (.bipush (-13), 2) := by decide +kernel
theorem dX9_set_43 : decode cX9_set 43 = .ok (.ireturn, 1) := by decide +kernel
theorem dX9_set_44 : decode cX9_set 44 = .ok (.aload_n 0, 1) := by decide +kernel
theorem dX9_set_45 : decode cX9_set 45 = .ok (.getfield 78, 3) := by decide +kernel
theorem dX9_set_48 : decode cX9_set 48 = .ok (.bipush 20, 2) := by decide +kernel
theorem dX9_set_50 : decode cX9_set 50 = .ok (.iload_n 1, 1) := by decide +kernel
theorem dX9_set_51 : decode cX9_set 51 = .ok (.imul, 1) := by decide +kernel
theorem dX9_set_52 : decode cX9_set 52 = .ok (.iload_n 2, 1) := by decide +kernel
theorem dX9_set_53 : decode cX9_set 53 = .ok (.iadd, 1) := by decide +kernel
theorem dX9_set_54 : decode cX9_set 54 = .ok (.iload_n 3, 1) := by decide +kernel
theorem dX9_set_55 : decode cX9_set 55 = .ok (.iastore, 1) := by decide +kernel
theorem dX9_set_56 : decode cX9_set 56 = .ok (.iconst 1, 1) := by decide +kernel
theorem dX9_set_57 : decode cX9_set 57 = .ok (.ireturn, 1) := by decide +kernel
set_option maxRecDepth 20000 in
theorem ggX9_get_X9_isHolder : GoodIn wsX9_get wsX9_isHolder := goodIn_r _ [8, 9, 10, 11, 7, 12] (by decide +kernel) (by decide +kernel)
set_option maxRecDepth 20000 in
theorem gX9_get_X9_isHolder : GoodIn wsX9_get (va_wsS RX9 330 yX9_isHolder wsX9_isHolder) := goodIn_app (goodIn_of _ (by decide +kernel)) ggX9_get_X9_isHolder
set_option maxRecDepth 20000 in
theorem ggX9_get_X9_in : GoodIn wsX9_get wsX9_in := goodIn_r _ [12] (by decide +kernel) (by decide +kernel)
set_option maxRecDepth 20000 in
theorem gX9_get_X9_in : GoodIn wsX9_get (va_wsS RX9 110 yX9_in wsX9_in) := goodIn_app (goodIn_of _ (by decide +kernel)) ggX9_get_X9_in
theorem dX9_get_0 : decode cX9_get 0 = .ok (.iload_n 1, 1) := by decide +kernel
theorem dX9_get_1 : decode cX9_get 1 = .ok (.invokestatic 330, 3) := by decide +kernel
theorem dX9_get_4 : decode cX9_get 4 = .ok (.ifCond .eq 46, 3) := by decide +kernel
theorem dX9_get_7 : decode cX9_get 7 = .ok (.aload_n 0, 1) := by decide +kernel
theorem dX9_get_8 : decode cX9_get 8 = .ok (.getfield 65, 3) := by decide +kernel
theorem dX9_get_11 : decode cX9_get 11 = .ok (.iload_n 1, 1) := by decide +kernel
theorem dX9_get_12 : decode cX9_get 12 = .ok (.iaload, 1) := by decide +kernel
theorem dX9_get_13 : decode cX9_get 13 = .ok (.iconst 3, 1) := by decide +kernel
theorem dX9_get_14 : decode cX9_get 14 = .ok (.if_icmp .ne 36, 3) := by decide +kernel
theorem dX9_get_17 : decode cX9_get 17 = .ok (.iload_n 2, 1) := by decide +kernel
theorem dX9_get_18 : decode cX9_get 18 = .ok (.i2l, 1) := by decide +kernel
theorem dX9_get_19 : decode cX9_get 19 = .ok (.lconst 0, 1) := by decide +kernel
theorem dX9_get_20 : decode cX9_get 20 = .ok (.aload_n 0, 1) := by decide +kernel
theorem dX9_get_21 : decode cX9_get 21 = .ok (.getfield 72, 3) := by decide +kernel
theorem dX9_get_24 : decode cX9_get 24 = .ok (.iload_n 1, 1) := by decide +kernel
theorem dX9_get_25 : decode cX9_get 25 = .ok (.iaload, 1) := by decide +kernel
theorem dX9_get_26 : decode cX9_get 26 = .ok (.iconst 1, 1) := by decide +kernel
theorem dX9_get_27 : decode cX9_get 27 = .ok (.isub, 1) := by decide +kernel
theorem dX9_get_28 : decode cX9_get 28 = .ok (.i2l, 1) := by decide +kernel
theorem dX9_get_29 : decode cX9_get 29 = .ok (.invokestatic 110, 3) := by decide +kernel
theorem dX9_get_32 : decode cX9_get 32 = .ok (.ifCond .eq 18, 3) := by decide +kernel
theorem dX9_get_35 : decode cX9_get 35 = .ok (.aload_n 0, 1) := by decide +kernel
theorem dX9_get_36 : decode cX9_get 36 = .ok (.getfield 78, 3) := by decide +kernel
theorem dX9_get_39 : decode cX9_get 39 = .ok (.bipush 20, 2) := by decide +kernel
theorem dX9_get_41 : decode cX9_get 41 = .ok (.iload_n 1, 1) := by decide +kernel
theorem dX9_get_42 : decode cX9_get 42 = .ok (.imul, 1) := by decide +kernel
theorem dX9_get_43 : decode cX9_get 43 = .ok (.iload_n 2, 1) := by decide +kernel
theorem dX9_get_44 : decode cX9_get 44 = .ok (.iadd, 1) := by decide +kernel
theorem dX9_get_45 : decode cX9_get 45 = .ok (.iaload, 1) := by decide +kernel
theorem dX9_get_46 : decode cX9_get 46 = .ok (.i2l, 1) := by decide +kernel
theorem dX9_get_47 : decode cX9_get 47 = .ok (.goto 6, 3) := by decide +kernel
theorem dX9_get_50 : decode cX9_get 50 = .ok (.ldc2_w 181, 3) := by decide +kernel
theorem dX9_get_53 : decode cX9_get 53 = .ok (.lreturn, 1) := by decide +kernel
set_option maxRecDepth 20000 in
theorem ggX9_judge_X9_isHolder : GoodIn wsX9_judge wsX9_isHolder := goodIn_r _ [8, 9, 10, 11, 7, 12] (by decide +kernel) (by decide +kernel)
set_option maxRecDepth 20000 in
theorem gX9_judge_X9_isHolder : GoodIn wsX9_judge (va_wsS RX9 330 yX9_isHolder wsX9_isHolder) := goodIn_app (goodIn_of _ (by decide +kernel)) ggX9_judge_X9_isHolder
set_option maxRecDepth 20000 in
theorem ggX9_judge_X9_rowless : GoodIn wsX9_judge wsX9_rowless := goodIn_r _ [16, 17, 18, 19, 20, 21, 22, 23, 24, 25, 26, 27, 28, 29, 30, 31, 32, 33, 34, 35, 36, 37, 38, 39, 40, 41, 42, 43, 44, 45, 46, 47, 48, 49, 50, 51, 52, 53, 54, 55, 56, 57, 58, 59] (by decide +kernel) (by decide +kernel)
set_option maxRecDepth 20000 in
theorem gX9_judge_X9_rowless : GoodIn wsX9_judge (wsV RX9 341 RX9 yX9_rowless wsX9_rowless) := goodIn_app (goodIn_of _ (by decide +kernel)) ggX9_judge_X9_rowless
theorem dX9_judge_0 : decode cX9_judge 0 = .ok (.iload_n 1, 1) := by decide +kernel
theorem dX9_judge_1 : decode cX9_judge 1 = .ok (.invokestatic 330, 3) := by decide +kernel
theorem dX9_judge_4 : decode cX9_judge 4 = .ok (.ifCond .ne 5, 3) := by decide +kernel
theorem dX9_judge_7 : decode cX9_judge 7 = .ok (.iconst (-1), 1) := by decide +kernel
theorem dX9_judge_8 : decode cX9_judge 8 = .ok (.ireturn, 1) := by decide +kernel
theorem dX9_judge_9 : decode cX9_judge 9 = .ok (.aload_n 0, 1) := by decide +kernel
theorem dX9_judge_10 : decode cX9_judge 10 = .ok (.iload_n 1, 1) := by decide +kernel
theorem dX9_judge_11 : decode cX9_judge 11 = .ok (.invokevirtual 341, 3) := by decide +kernel
theorem dX9_judge_14 : decode cX9_judge 14 = .ok (.ifCond .eq 9, 3) := by decide +kernel
theorem dX9_judge_17 : decode cX9_judge 17 = .ok (.aload_n 0, 1) := by decide +kernel
theorem dX9_judge_18 : decode cX9_judge 18 = .ok (.iload_n 1, 1) := by decide +kernel
theorem dX9_judge_19 : decode cX9_judge 19 = .ok (.invokevirtual 341, 3) := by decide +kernel
theorem dX9_judge_22 : decode cX9_judge 22 = .ok (.ireturn, 1) := by decide +kernel
theorem dX9_judge_23 : decode cX9_judge 23 = .ok (.iconst 0, 1) := by decide +kernel
theorem dX9_judge_24 : decode cX9_judge 24 = .ok (.istore_n 2, 1) := by decide +kernel
theorem dX9_judge_25 : decode cX9_judge 25 = .ok (.iload_n 2, 1) := by decide +kernel
theorem dX9_judge_26 : decode cX9_judge 26 = .ok (.aload_n 0, 1) := by decide +kernel
theorem dX9_judge_27 : decode cX9_judge 27 = .ok (.getfield 72, 3) := by decide +kernel
theorem dX9_judge_30 : decode cX9_judge 30 = .ok (.iload_n 1, 1) := by decide +kernel
theorem dX9_judge_31 : decode cX9_judge 31 = .ok (.iaload, 1) := by decide +kernel
theorem dX9_judge_32 : decode cX9_judge 32 = .ok (.if_icmp .lt 11, 3) := by decide +kernel
theorem dX9_judge_35 : decode cX9_judge 35 = .ok (.iload_n 2, 1) := by decide +kernel
theorem dX9_judge_36 : decode cX9_judge 36 = .ok (.aload_n 0, 1) := by decide +kernel
theorem dX9_judge_37 : decode cX9_judge 37 = .ok (.getfield 94, 3) := by decide +kernel
theorem dX9_judge_40 : decode cX9_judge 40 = .ok (.if_icmp .ge 49, 3) := by decide +kernel
theorem dX9_judge_43 : decode cX9_judge 43 = .ok (.iload_n 2, 1) := by decide +kernel
theorem dX9_judge_44 : decode cX9_judge 44 = .ok (.aload_n 0, 1) := by decide +kernel
theorem dX9_judge_45 : decode cX9_judge 45 = .ok (.getfield 72, 3) := by decide +kernel
theorem dX9_judge_48 : decode cX9_judge 48 = .ok (.iload_n 1, 1) := by decide +kernel
theorem dX9_judge_49 : decode cX9_judge 49 = .ok (.iaload, 1) := by decide +kernel
theorem dX9_judge_50 : decode cX9_judge 50 = .ok (.if_icmp .ge 31, 3) := by decide +kernel
theorem dX9_judge_53 : decode cX9_judge 53 = .ok (.iload_n 2, 1) := by decide +kernel
theorem dX9_judge_54 : decode cX9_judge 54 = .ok (.aload_n 0, 1) := by decide +kernel
theorem dX9_judge_55 : decode cX9_judge 55 = .ok (.getfield 94, 3) := by decide +kernel
theorem dX9_judge_58 : decode cX9_judge 58 = .ok (.if_icmp .ge 23, 3) := by decide +kernel
theorem dX9_judge_61 : decode cX9_judge 61 = .ok (.aload_n 0, 1) := by decide +kernel
theorem dX9_judge_62 : decode cX9_judge 62 = .ok (.getfield 78, 3) := by decide +kernel
theorem dX9_judge_65 : decode cX9_judge 65 = .ok (.bipush 20, 2) := by decide +kernel
theorem dX9_judge_67 : decode cX9_judge 67 = .ok (.iload_n 1, 1) := by decide +kernel
theorem dX9_judge_68 : decode cX9_judge 68 = .ok (.imul, 1) := by decide +kernel
theorem dX9_judge_69 : decode cX9_judge 69 = .ok (.iload_n 2, 1) := by decide +kernel
theorem dX9_judge_70 : decode cX9_judge 70 = .ok (.iadd, 1) := by decide +kernel
theorem dX9_judge_71 : decode cX9_judge 71 = .ok (.iaload, 1) := by decide +kernel
theorem dX9_judge_72 : decode cX9_judge 72 = .ok (.aload_n 0, 1) := by decide +kernel
theorem dX9_judge_73 : decode cX9_judge 73 = .ok (.getfield 19, 3) := by decide +kernel
theorem dX9_judge_76 : decode cX9_judge 76 = .ok (.iload_n 2, 1) := by decide +kernel
theorem dX9_judge_77 : decode cX9_judge 77 = .ok (.iaload, 1) := by decide +kernel
theorem dX9_judge_78 : decode cX9_judge 78 = .ok (.if_icmp .eq 5, 3) := by decide +kernel
theorem dX9_judge_81 : decode cX9_judge 81 = .ok (.iload_n 2, 1) := by decide +kernel
theorem dX9_judge_82 : decode cX9_judge 82 = .ok (.ireturn, 1) := by decide +kernel
theorem dX9_judge_83 : decode cX9_judge 83 = .ok (.iinc 2 1, 3) := by decide +kernel
theorem dX9_judge_86 : decode cX9_judge 86 = .ok (.goto (-61), 3) := by decide +kernel
theorem dX9_judge_89 : decode cX9_judge 89 = .ok (.bipush (-2), 2) := by decide +kernel
theorem dX9_judge_91 : decode cX9_judge 91 = .ok (.ireturn, 1) := by decide +kernel
set_option maxRecDepth 20000 in
theorem ggX9_image_X9_lays : GoodIn wsX9_image wsX9_lays := goodIn_r _ [8, 9, 3, 10, 11, 12, 13, 14, 15, 16, 17, 18, 19, 20, 21, 22, 23, 24, 25, 26, 27, 28, 29, 30, 31, 32, 33, 34, 35, 36, 37, 38, 39, 40, 41, 42, 43, 44, 45, 46, 47, 48, 49, 50, 51, 52, 53, 54, 55] (by decide +kernel) (by decide +kernel)
set_option maxRecDepth 20000 in
theorem gX9_image_X9_lays : GoodIn wsX9_image (wsV RX9 97 RX9 yX9_lays wsX9_lays) := goodIn_app (goodIn_of _ (by decide +kernel)) ggX9_image_X9_lays
theorem dX9_image_0 : decode cX9_image 0 = .ok (.aload_n 0, 1) := by decide +kernel
theorem dX9_image_1 : decode cX9_image 1 = .ok (.aload_n 0, 1) := by decide +kernel
theorem dX9_image_2 : decode cX9_image 2 = .ok (.getfield 81, 3) := by decide +kernel
theorem dX9_image_5 : decode cX9_image 5 = .ok (.iconst 0, 1) := by decide +kernel
theorem dX9_image_6 : decode cX9_image 6 = .ok (.invokevirtual 97, 3) := by decide +kernel
theorem dX9_image_9 : decode cX9_image 9 = .ok (.aload_n 0, 1) := by decide +kernel
theorem dX9_image_10 : decode cX9_image 10 = .ok (.iconst 1, 1) := by decide +kernel
theorem dX9_image_11 : decode cX9_image 11 = .ok (.putfield 344, 3) := by decide +kernel
theorem dX9_image_14 : decode cX9_image 14 = .ok (.aload_n 0, 1) := by decide +kernel
theorem dX9_image_15 : decode cX9_image 15 = .ok (.getfield 91, 3) := by decide +kernel
theorem dX9_image_18 : decode cX9_image 18 = .ok (.ireturn, 1) := by decide +kernel
set_option maxRecDepth 20000 in
theorem ggX9_restore_X9_takes : GoodIn wsX9_restore wsX9_takes := goodIn_r _ [10, 11, 5, 12, 13, 14, 15, 16, 17, 18, 19, 20, 21, 22, 23, 24, 25, 26, 27, 28, 29, 30, 31, 32, 33, 34, 35, 36, 37, 38, 39, 40, 41, 42, 43, 44, 45, 46, 47, 48, 49, 50, 51, 52, 53, 54, 55, 56, 57] (by decide +kernel) (by decide +kernel)
set_option maxRecDepth 20000 in
theorem gX9_restore_X9_takes : GoodIn wsX9_restore (wsV RX9 107 RX9 yX9_takes wsX9_takes) := goodIn_app (goodIn_of _ (by decide +kernel)) ggX9_restore_X9_takes
theorem dX9_restore_0 : decode cX9_restore 0 = .ok (.aload_n 0, 1) := by decide +kernel
theorem dX9_restore_1 : decode cX9_restore 1 = .ok (.getfield 344, 3) := by decide +kernel
theorem dX9_restore_4 : decode cX9_restore 4 = .ok (.ifCond .ne 6, 3) := by decide +kernel
theorem dX9_restore_7 : decode cX9_restore 7 = .ok (.bipush (-5), 2) := by decide +kernel
theorem dX9_restore_9 : decode cX9_restore 9 = .ok (.ireturn, 1) := by decide +kernel
theorem dX9_restore_10 : decode cX9_restore 10 = .ok (.aload_n 0, 1) := by decide +kernel
theorem dX9_restore_11 : decode cX9_restore 11 = .ok (.aload_n 0, 1) := by decide +kernel
theorem dX9_restore_12 : decode cX9_restore 12 = .ok (.getfield 81, 3) := by decide +kernel
theorem dX9_restore_15 : decode cX9_restore 15 = .ok (.iconst 0, 1) := by decide +kernel
theorem dX9_restore_16 : decode cX9_restore 16 = .ok (.invokevirtual 107, 3) := by decide +kernel
theorem dX9_restore_19 : decode cX9_restore 19 = .ok (.aload_n 0, 1) := by decide +kernel
theorem dX9_restore_20 : decode cX9_restore 20 = .ok (.iconst 0, 1) := by decide +kernel
theorem dX9_restore_21 : decode cX9_restore 21 = .ok (.putfield 101, 3) := by decide +kernel
theorem dX9_restore_24 : decode cX9_restore 24 = .ok (.aload_n 0, 1) := by decide +kernel
theorem dX9_restore_25 : decode cX9_restore 25 = .ok (.iconst 0, 1) := by decide +kernel
theorem dX9_restore_26 : decode cX9_restore 26 = .ok (.putfield 104, 3) := by decide +kernel
theorem dX9_restore_29 : decode cX9_restore 29 = .ok (.aload_n 0, 1) := by decide +kernel
theorem dX9_restore_30 : decode cX9_restore 30 = .ok (.getfield 91, 3) := by decide +kernel
theorem dX9_restore_33 : decode cX9_restore 33 = .ok (.ireturn, 1) := by decide +kernel
theorem dX9_count_0 : decode cX9_count 0 = .ok (.iload_n 1, 1) := by decide +kernel
theorem dX9_count_1 : decode cX9_count 1 = .ok (.tableswitch 78 0 6 #[43, 48, 53, 58, 63, 68, 73], 43) := by decide +kernel
theorem dX9_count_44 : decode cX9_count 44 = .ok (.aload_n 0, 1) := by decide +kernel
theorem dX9_count_45 : decode cX9_count 45 = .ok (.getfield 88, 3) := by decide +kernel
theorem dX9_count_48 : decode cX9_count 48 = .ok (.ireturn, 1) := by decide +kernel
theorem dX9_count_49 : decode cX9_count 49 = .ok (.aload_n 0, 1) := by decide +kernel
theorem dX9_count_50 : decode cX9_count 50 = .ok (.getfield 91, 3) := by decide +kernel
theorem dX9_count_53 : decode cX9_count 53 = .ok (.ireturn, 1) := by decide +kernel
theorem dX9_count_54 : decode cX9_count 54 = .ok (.aload_n 0, 1) := by decide +kernel
theorem dX9_count_55 : decode cX9_count 55 = .ok (.getfield 15, 3) := by decide +kernel
theorem dX9_count_58 : decode cX9_count 58 = .ok (.ireturn, 1) := by decide +kernel
theorem dX9_count_59 : decode cX9_count 59 = .ok (.aload_n 0, 1) := by decide +kernel
theorem dX9_count_60 : decode cX9_count 60 = .ok (.getfield 94, 3) := by decide +kernel
theorem dX9_count_63 : decode cX9_count 63 = .ok (.ireturn, 1) := by decide +kernel
theorem dX9_count_64 : decode cX9_count 64 = .ok (.aload_n 0, 1) := by decide +kernel
theorem dX9_count_65 : decode cX9_count 65 = .ok (.getfield 101, 3) := by decide +kernel
theorem dX9_count_68 : decode cX9_count 68 = .ok (.ireturn, 1) := by decide +kernel
theorem dX9_count_69 : decode cX9_count 69 = .ok (.aload_n 0, 1) := by decide +kernel
theorem dX9_count_70 : decode cX9_count 70 = .ok (.getfield 104, 3) := by decide +kernel
theorem dX9_count_73 : decode cX9_count 73 = .ok (.ireturn, 1) := by decide +kernel
theorem dX9_count_74 : decode cX9_count 74 = .ok (.aload_n 0, 1) := by decide +kernel
theorem dX9_count_75 : decode cX9_count 75 = .ok (.getfield 258, 3) := by decide +kernel
theorem dX9_count_78 : decode cX9_count 78 = .ok (.ireturn, 1) := by decide +kernel
theorem dX9_count_79 : decode cX9_count 79 = .ok (.iconst (-1), 1) := by decide +kernel
theorem dX9_count_80 : decode cX9_count 80 = .ok (.ireturn, 1) := by decide +kernel
theorem dJ6_bitCount_0f7a4_0 : decode cJ6_bitCount_0f7a4 0 = .ok (.iload_n 0, 1) := by decide +kernel
theorem dJ6_bitCount_0f7a4_1 : decode cJ6_bitCount_0f7a4 1 = .ok (.iload_n 0, 1) := by decide +kernel
theorem dJ6_bitCount_0f7a4_2 : decode cJ6_bitCount_0f7a4 2 = .ok (.iconst 1, 1) := by decide +kernel
theorem dJ6_bitCount_0f7a4_3 : decode cJ6_bitCount_0f7a4 3 = .ok (.iushr, 1) := by decide +kernel
theorem dJ6_bitCount_0f7a4_4 : decode cJ6_bitCount_0f7a4 4 = .ok (.ldc_w 265, 3) := by decide +kernel
theorem dJ6_bitCount_0f7a4_7 : decode cJ6_bitCount_0f7a4 7 = .ok (.iand, 1) := by decide +kernel
theorem dJ6_bitCount_0f7a4_8 : decode cJ6_bitCount_0f7a4 8 = .ok (.isub, 1) := by decide +kernel
theorem dJ6_bitCount_0f7a4_9 : decode cJ6_bitCount_0f7a4 9 = .ok (.istore_n 0, 1) := by decide +kernel
theorem dJ6_bitCount_0f7a4_10 : decode cJ6_bitCount_0f7a4 10 = .ok (.iload_n 0, 1) := by decide +kernel
theorem dJ6_bitCount_0f7a4_11 : decode cJ6_bitCount_0f7a4 11 = .ok (.ldc_w 266, 3) := by decide +kernel
theorem dJ6_bitCount_0f7a4_14 : decode cJ6_bitCount_0f7a4 14 = .ok (.iand, 1) := by decide +kernel
theorem dJ6_bitCount_0f7a4_15 : decode cJ6_bitCount_0f7a4 15 = .ok (.iload_n 0, 1) := by decide +kernel
theorem dJ6_bitCount_0f7a4_16 : decode cJ6_bitCount_0f7a4 16 = .ok (.iconst 2, 1) := by decide +kernel
theorem dJ6_bitCount_0f7a4_17 : decode cJ6_bitCount_0f7a4 17 = .ok (.iushr, 1) := by decide +kernel
theorem dJ6_bitCount_0f7a4_18 : decode cJ6_bitCount_0f7a4 18 = .ok (.ldc_w 266, 3) := by decide +kernel
theorem dJ6_bitCount_0f7a4_21 : decode cJ6_bitCount_0f7a4 21 = .ok (.iand, 1) := by decide +kernel
theorem dJ6_bitCount_0f7a4_22 : decode cJ6_bitCount_0f7a4 22 = .ok (.iadd, 1) := by decide +kernel
theorem dJ6_bitCount_0f7a4_23 : decode cJ6_bitCount_0f7a4 23 = .ok (.istore_n 0, 1) := by decide +kernel
theorem dJ6_bitCount_0f7a4_24 : decode cJ6_bitCount_0f7a4 24 = .ok (.iload_n 0, 1) := by decide +kernel
theorem dJ6_bitCount_0f7a4_25 : decode cJ6_bitCount_0f7a4 25 = .ok (.iload_n 0, 1) := by decide +kernel
theorem dJ6_bitCount_0f7a4_26 : decode cJ6_bitCount_0f7a4 26 = .ok (.iconst 4, 1) := by decide +kernel
theorem dJ6_bitCount_0f7a4_27 : decode cJ6_bitCount_0f7a4 27 = .ok (.iushr, 1) := by decide +kernel
theorem dJ6_bitCount_0f7a4_28 : decode cJ6_bitCount_0f7a4 28 = .ok (.iadd, 1) := by decide +kernel
theorem dJ6_bitCount_0f7a4_29 : decode cJ6_bitCount_0f7a4 29 = .ok (.ldc_w 267, 3) := by decide +kernel
theorem dJ6_bitCount_0f7a4_32 : decode cJ6_bitCount_0f7a4 32 = .ok (.iand, 1) := by decide +kernel
theorem dJ6_bitCount_0f7a4_33 : decode cJ6_bitCount_0f7a4 33 = .ok (.istore_n 0, 1) := by decide +kernel
theorem dJ6_bitCount_0f7a4_34 : decode cJ6_bitCount_0f7a4 34 = .ok (.iload_n 0, 1) := by decide +kernel
theorem dJ6_bitCount_0f7a4_35 : decode cJ6_bitCount_0f7a4 35 = .ok (.iload_n 0, 1) := by decide +kernel
theorem dJ6_bitCount_0f7a4_36 : decode cJ6_bitCount_0f7a4 36 = .ok (.bipush 8, 2) := by decide +kernel
theorem dJ6_bitCount_0f7a4_38 : decode cJ6_bitCount_0f7a4 38 = .ok (.iushr, 1) := by decide +kernel
theorem dJ6_bitCount_0f7a4_39 : decode cJ6_bitCount_0f7a4 39 = .ok (.iadd, 1) := by decide +kernel
theorem dJ6_bitCount_0f7a4_40 : decode cJ6_bitCount_0f7a4 40 = .ok (.istore_n 0, 1) := by decide +kernel
theorem dJ6_bitCount_0f7a4_41 : decode cJ6_bitCount_0f7a4 41 = .ok (.iload_n 0, 1) := by decide +kernel
theorem dJ6_bitCount_0f7a4_42 : decode cJ6_bitCount_0f7a4 42 = .ok (.iload_n 0, 1) := by decide +kernel
theorem dJ6_bitCount_0f7a4_43 : decode cJ6_bitCount_0f7a4 43 = .ok (.bipush 16, 2) := by decide +kernel
theorem dJ6_bitCount_0f7a4_45 : decode cJ6_bitCount_0f7a4 45 = .ok (.iushr, 1) := by decide +kernel
theorem dJ6_bitCount_0f7a4_46 : decode cJ6_bitCount_0f7a4 46 = .ok (.iadd, 1) := by decide +kernel
theorem dJ6_bitCount_0f7a4_47 : decode cJ6_bitCount_0f7a4 47 = .ok (.istore_n 0, 1) := by decide +kernel
theorem dJ6_bitCount_0f7a4_48 : decode cJ6_bitCount_0f7a4 48 = .ok (.iload_n 0, 1) := by decide +kernel
theorem dJ6_bitCount_0f7a4_49 : decode cJ6_bitCount_0f7a4 49 = .ok (.bipush 63, 2) := by decide +kernel
theorem dJ6_bitCount_0f7a4_51 : decode cJ6_bitCount_0f7a4 51 = .ok (.iand, 1) := by decide +kernel
theorem dJ6_bitCount_0f7a4_52 : decode cJ6_bitCount_0f7a4 52 = .ok (.ireturn, 1) := by decide +kernel
theorem dJ13_bitCount_95d88_0 : decode cJ13_bitCount_95d88 0 = .ok (.lload_n 0, 1) := by decide +kernel
theorem dJ13_bitCount_95d88_1 : decode cJ13_bitCount_95d88 1 = .ok (.lload_n 0, 1) := by decide +kernel
theorem dJ13_bitCount_95d88_2 : decode cJ13_bitCount_95d88 2 = .ok (.iconst 1, 1) := by decide +kernel
theorem dJ13_bitCount_95d88_3 : decode cJ13_bitCount_95d88 3 = .ok (.lushr, 1) := by decide +kernel
theorem dJ13_bitCount_95d88_4 : decode cJ13_bitCount_95d88 4 = .ok (.ldc2_w 314, 3) := by decide +kernel
theorem dJ13_bitCount_95d88_7 : decode cJ13_bitCount_95d88 7 = .ok (.land, 1) := by decide +kernel
theorem dJ13_bitCount_95d88_8 : decode cJ13_bitCount_95d88 8 = .ok (.lsub, 1) := by decide +kernel
theorem dJ13_bitCount_95d88_9 : decode cJ13_bitCount_95d88 9 = .ok (.lstore_n 0, 1) := by decide +kernel
theorem dJ13_bitCount_95d88_10 : decode cJ13_bitCount_95d88 10 = .ok (.lload_n 0, 1) := by decide +kernel
theorem dJ13_bitCount_95d88_11 : decode cJ13_bitCount_95d88 11 = .ok (.ldc2_w 316, 3) := by decide +kernel
theorem dJ13_bitCount_95d88_14 : decode cJ13_bitCount_95d88 14 = .ok (.land, 1) := by decide +kernel
theorem dJ13_bitCount_95d88_15 : decode cJ13_bitCount_95d88 15 = .ok (.lload_n 0, 1) := by decide +kernel
theorem dJ13_bitCount_95d88_16 : decode cJ13_bitCount_95d88 16 = .ok (.iconst 2, 1) := by decide +kernel
theorem dJ13_bitCount_95d88_17 : decode cJ13_bitCount_95d88 17 = .ok (.lushr, 1) := by decide +kernel
theorem dJ13_bitCount_95d88_18 : decode cJ13_bitCount_95d88 18 = .ok (.ldc2_w 316, 3) := by decide +kernel
theorem dJ13_bitCount_95d88_21 : decode cJ13_bitCount_95d88 21 = .ok (.land, 1) := by decide +kernel
theorem dJ13_bitCount_95d88_22 : decode cJ13_bitCount_95d88 22 = .ok (.ladd, 1) := by decide +kernel
theorem dJ13_bitCount_95d88_23 : decode cJ13_bitCount_95d88 23 = .ok (.lstore_n 0, 1) := by decide +kernel
theorem dJ13_bitCount_95d88_24 : decode cJ13_bitCount_95d88 24 = .ok (.lload_n 0, 1) := by decide +kernel
theorem dJ13_bitCount_95d88_25 : decode cJ13_bitCount_95d88 25 = .ok (.lload_n 0, 1) := by decide +kernel
theorem dJ13_bitCount_95d88_26 : decode cJ13_bitCount_95d88 26 = .ok (.iconst 4, 1) := by decide +kernel
theorem dJ13_bitCount_95d88_27 : decode cJ13_bitCount_95d88 27 = .ok (.lushr, 1) := by decide +kernel
theorem dJ13_bitCount_95d88_28 : decode cJ13_bitCount_95d88 28 = .ok (.ladd, 1) := by decide +kernel
theorem dJ13_bitCount_95d88_29 : decode cJ13_bitCount_95d88 29 = .ok (.ldc2_w 318, 3) := by decide +kernel
theorem dJ13_bitCount_95d88_32 : decode cJ13_bitCount_95d88 32 = .ok (.land, 1) := by decide +kernel
theorem dJ13_bitCount_95d88_33 : decode cJ13_bitCount_95d88 33 = .ok (.lstore_n 0, 1) := by decide +kernel
theorem dJ13_bitCount_95d88_34 : decode cJ13_bitCount_95d88 34 = .ok (.lload_n 0, 1) := by decide +kernel
theorem dJ13_bitCount_95d88_35 : decode cJ13_bitCount_95d88 35 = .ok (.lload_n 0, 1) := by decide +kernel
theorem dJ13_bitCount_95d88_36 : decode cJ13_bitCount_95d88 36 = .ok (.bipush 8, 2) := by decide +kernel
theorem dJ13_bitCount_95d88_38 : decode cJ13_bitCount_95d88 38 = .ok (.lushr, 1) := by decide +kernel
theorem dJ13_bitCount_95d88_39 : decode cJ13_bitCount_95d88 39 = .ok (.ladd, 1) := by decide +kernel
theorem dJ13_bitCount_95d88_40 : decode cJ13_bitCount_95d88 40 = .ok (.lstore_n 0, 1) := by decide +kernel
theorem dJ13_bitCount_95d88_41 : decode cJ13_bitCount_95d88 41 = .ok (.lload_n 0, 1) := by decide +kernel
theorem dJ13_bitCount_95d88_42 : decode cJ13_bitCount_95d88 42 = .ok (.lload_n 0, 1) := by decide +kernel
theorem dJ13_bitCount_95d88_43 : decode cJ13_bitCount_95d88 43 = .ok (.bipush 16, 2) := by decide +kernel
theorem dJ13_bitCount_95d88_45 : decode cJ13_bitCount_95d88 45 = .ok (.lushr, 1) := by decide +kernel
theorem dJ13_bitCount_95d88_46 : decode cJ13_bitCount_95d88 46 = .ok (.ladd, 1) := by decide +kernel
theorem dJ13_bitCount_95d88_47 : decode cJ13_bitCount_95d88 47 = .ok (.lstore_n 0, 1) := by decide +kernel
theorem dJ13_bitCount_95d88_48 : decode cJ13_bitCount_95d88 48 = .ok (.lload_n 0, 1) := by decide +kernel
theorem dJ13_bitCount_95d88_49 : decode cJ13_bitCount_95d88 49 = .ok (.lload_n 0, 1) := by decide +kernel
theorem dJ13_bitCount_95d88_50 : decode cJ13_bitCount_95d88 50 = .ok (.bipush 32, 2) := by decide +kernel
theorem dJ13_bitCount_95d88_52 : decode cJ13_bitCount_95d88 52 = .ok (.lushr, 1) := by decide +kernel
theorem dJ13_bitCount_95d88_53 : decode cJ13_bitCount_95d88 53 = .ok (.ladd, 1) := by decide +kernel
theorem dJ13_bitCount_95d88_54 : decode cJ13_bitCount_95d88 54 = .ok (.lstore_n 0, 1) := by decide +kernel
theorem dJ13_bitCount_95d88_55 : decode cJ13_bitCount_95d88 55 = .ok (.lload_n 0, 1) := by decide +kernel
theorem dJ13_bitCount_95d88_56 : decode cJ13_bitCount_95d88 56 = .ok (.l2i, 1) := by decide +kernel
theorem dJ13_bitCount_95d88_57 : decode cJ13_bitCount_95d88 57 = .ok (.bipush 127, 2) := by decide +kernel
theorem dJ13_bitCount_95d88_59 : decode cJ13_bitCount_95d88 59 = .ok (.iand, 1) := by decide +kernel
theorem dJ13_bitCount_95d88_60 : decode cJ13_bitCount_95d88 60 = .ok (.ireturn, 1) := by decide +kernel
theorem dJ9_floorMod_f86c9_0 : decode cJ9_floorMod_f86c9 0 = .ok (.lload_n 0, 1) := by decide +kernel
theorem dJ9_floorMod_f86c9_1 : decode cJ9_floorMod_f86c9 1 = .ok (.lload_n 2, 1) := by decide +kernel
theorem dJ9_floorMod_f86c9_2 : decode cJ9_floorMod_f86c9 2 = .ok (.lrem, 1) := by decide +kernel
theorem dJ9_floorMod_f86c9_3 : decode cJ9_floorMod_f86c9 3 = .ok (.lstore 4, 2) := by decide +kernel
theorem dJ9_floorMod_f86c9_5 : decode cJ9_floorMod_f86c9 5 = .ok (.lload_n 0, 1) := by decide +kernel
theorem dJ9_floorMod_f86c9_6 : decode cJ9_floorMod_f86c9 6 = .ok (.lload_n 2, 1) := by decide +kernel
theorem dJ9_floorMod_f86c9_7 : decode cJ9_floorMod_f86c9 7 = .ok (.lxor, 1) := by decide +kernel
theorem dJ9_floorMod_f86c9_8 : decode cJ9_floorMod_f86c9 8 = .ok (.lconst 0, 1) := by decide +kernel
theorem dJ9_floorMod_f86c9_9 : decode cJ9_floorMod_f86c9 9 = .ok (.lcmp, 1) := by decide +kernel
theorem dJ9_floorMod_f86c9_10 : decode cJ9_floorMod_f86c9 10 = .ok (.ifCond .ge 15, 3) := by decide +kernel
theorem dJ9_floorMod_f86c9_13 : decode cJ9_floorMod_f86c9 13 = .ok (.lload 4, 2) := by decide +kernel
theorem dJ9_floorMod_f86c9_15 : decode cJ9_floorMod_f86c9 15 = .ok (.lconst 0, 1) := by decide +kernel
theorem dJ9_floorMod_f86c9_16 : decode cJ9_floorMod_f86c9 16 = .ok (.lcmp, 1) := by decide +kernel
theorem dJ9_floorMod_f86c9_17 : decode cJ9_floorMod_f86c9 17 = .ok (.ifCond .eq 8, 3) := by decide +kernel
theorem dJ9_floorMod_f86c9_20 : decode cJ9_floorMod_f86c9 20 = .ok (.lload 4, 2) := by decide +kernel
theorem dJ9_floorMod_f86c9_22 : decode cJ9_floorMod_f86c9 22 = .ok (.lload_n 2, 1) := by decide +kernel
theorem dJ9_floorMod_f86c9_23 : decode cJ9_floorMod_f86c9 23 = .ok (.ladd, 1) := by decide +kernel
theorem dJ9_floorMod_f86c9_24 : decode cJ9_floorMod_f86c9 24 = .ok (.lreturn, 1) := by decide +kernel
theorem dJ9_floorMod_f86c9_25 : decode cJ9_floorMod_f86c9 25 = .ok (.lload 4, 2) := by decide +kernel
theorem dJ9_floorMod_f86c9_27 : decode cJ9_floorMod_f86c9 27 = .ok (.lreturn, 1) := by decide +kernel
theorem dJ9_abs_067f4_0 : decode cJ9_abs_067f4 0 = .ok (.lload_n 0, 1) := by decide +kernel
theorem dJ9_abs_067f4_1 : decode cJ9_abs_067f4 1 = .ok (.lconst 0, 1) := by decide +kernel
theorem dJ9_abs_067f4_2 : decode cJ9_abs_067f4 2 = .ok (.lcmp, 1) := by decide +kernel
theorem dJ9_abs_067f4_3 : decode cJ9_abs_067f4 3 = .ok (.ifCond .ge 8, 3) := by decide +kernel
theorem dJ9_abs_067f4_6 : decode cJ9_abs_067f4 6 = .ok (.lload_n 0, 1) := by decide +kernel
theorem dJ9_abs_067f4_7 : decode cJ9_abs_067f4 7 = .ok (.lneg, 1) := by decide +kernel
theorem dJ9_abs_067f4_8 : decode cJ9_abs_067f4 8 = .ok (.goto 4, 3) := by decide +kernel
theorem dJ9_abs_067f4_11 : decode cJ9_abs_067f4 11 = .ok (.lload_n 0, 1) := by decide +kernel
theorem dJ9_abs_067f4_12 : decode cJ9_abs_067f4 12 = .ok (.lreturn, 1) := by decide +kernel
abbrev vwCl : List vw_C := [(RX0, TX0, 3), (RX1, TX1, 5), (RX2, TX2, 6), (RX3, TX3, 7), (RX4, TX4, 6), (RX5, TX5, 2), (RX7, TX7, 2), (RX8, TX8, 9), (RX9, TX9, 42)]
