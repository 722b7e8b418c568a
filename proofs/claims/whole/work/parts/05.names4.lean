theorem dX9_tree_66 : decode cX9_tree 66 = .ok (.iaload, 1) := by decide +kernel
theorem dX9_tree_67 : decode cX9_tree 67 = .ok (.goto 5, 3) := by decide +kernel
theorem dX9_tree_70 : decode cX9_tree 70 = .ok (.bipush (-2), 2) := by decide +kernel
theorem dX9_tree_72 : decode cX9_tree 72 = .ok (.ireturn, 1) := by decide +kernel
theorem dX9_without_0 : decode cX9_without 0 = .ok (.iload_n 0, 1) := by decide +kernel
theorem dX9_without_1 : decode cX9_without 1 = .ok (.iconst 1, 1) := by decide +kernel
theorem dX9_without_2 : decode cX9_without 2 = .ok (.iload_n 1, 1) := by decide +kernel
theorem dX9_without_3 : decode cX9_without 3 = .ok (.ishl, 1) := by decide +kernel
theorem dX9_without_4 : decode cX9_without 4 = .ok (.iconst 1, 1) := by decide +kernel
theorem dX9_without_5 : decode cX9_without 5 = .ok (.isub, 1) := by decide +kernel
theorem dX9_without_6 : decode cX9_without 6 = .ok (.iand, 1) := by decide +kernel
theorem dX9_without_7 : decode cX9_without 7 = .ok (.istore_n 3, 1) := by decide +kernel
theorem dX9_without_8 : decode cX9_without 8 = .ok (.iload_n 3, 1) := by decide +kernel
theorem dX9_without_9 : decode cX9_without 9 = .ok (.iload_n 0, 1) := by decide +kernel
theorem dX9_without_10 : decode cX9_without 10 = .ok (.iload_n 1, 1) := by decide +kernel
theorem dX9_without_11 : decode cX9_without 11 = .ok (.iconst 1, 1) := by decide +kernel
theorem dX9_without_12 : decode cX9_without 12 = .ok (.iadd, 1) := by decide +kernel
theorem dX9_without_13 : decode cX9_without 13 = .ok (.ishr, 1) := by decide +kernel
theorem dX9_without_14 : decode cX9_without 14 = .ok (.iload_n 1, 1) := by decide +kernel
theorem dX9_without_15 : decode cX9_without 15 = .ok (.ishl, 1) := by decide +kernel
theorem dX9_without_16 : decode cX9_without 16 = .ok (.ior, 1) := by decide +kernel
theorem dX9_without_17 : decode cX9_without 17 = .ok (.istore 4, 2) := by decide +kernel
theorem dX9_without_19 : decode cX9_without 19 = .ok (.iload 4, 2) := by decide +kernel
theorem dX9_without_21 : decode cX9_without 21 = .ok (.iconst 1, 1) := by decide +kernel
theorem dX9_without_22 : decode cX9_without 22 = .ok (.iand, 1) := by decide +kernel
theorem dX9_without_23 : decode cX9_without 23 = .ok (.iconst 1, 1) := by decide +kernel
theorem dX9_without_24 : decode cX9_without 24 = .ok (.if_icmp .ne 16, 3) := by decide +kernel
theorem dX9_without_27 : decode cX9_without 27 = .ok (.iconst 1, 1) := by decide +kernel
theorem dX9_without_28 : decode cX9_without 28 = .ok (.iload_n 2, 1) := by decide +kernel
theorem dX9_without_29 : decode cX9_without 29 = .ok (.ishl, 1) := by decide +kernel
theorem dX9_without_30 : decode cX9_without 30 = .ok (.iconst 1, 1) := by decide +kernel
theorem dX9_without_31 : decode cX9_without 31 = .ok (.isub, 1) := by decide +kernel
theorem dX9_without_32 : decode cX9_without 32 = .ok (.iload 4, 2) := by decide +kernel
theorem dX9_without_34 : decode cX9_without 34 = .ok (.iconst (-1), 1) := by decide +kernel
theorem dX9_without_35 : decode cX9_without 35 = .ok (.ixor, 1) := by decide +kernel
theorem dX9_without_36 : decode cX9_without 36 = .ok (.iand, 1) := by decide +kernel
theorem dX9_without_37 : decode cX9_without 37 = .ok (.goto 5, 3) := by decide +kernel
theorem dX9_without_40 : decode cX9_without 40 = .ok (.iload 4, 2) := by decide +kernel
theorem dX9_without_42 : decode cX9_without 42 = .ok (.ireturn, 1) := by decide +kernel
set_option maxRecDepth 20000 in
theorem ggX9_forget_X9_in : GoodIn wsX9_forget wsX9_in := goodIn_r _ [7] (by decide +kernel) (by decide +kernel)
set_option maxRecDepth 20000 in
theorem gX9_forget_X9_in : GoodIn wsX9_forget (va_wsS RX9 110 yX9_in wsX9_in) := goodIn_app (goodIn_of _ (by decide +kernel)) ggX9_forget_X9_in
set_option maxRecDepth 20000 in
theorem ggX9_forget_X9_begins : GoodIn wsX9_forget wsX9_begins := goodIn_r _ [11, 3, 12, 13, 14, 6, 15, 16, 17, 1, 2, 18, 19, 49, 50, 51, 52, 53, 54, 55, 56, 57, 58, 59, 60, 61, 62, 63, 64, 65, 66, 67, 68, 69, 70, 71, 72, 73, 74, 75, 76, 77, 78, 79, 80, 81, 82, 83, 84, 85, 86, 87, 88, 89, 90] (by decide +kernel) (by decide +kernel)
set_option maxRecDepth 20000 in
theorem gX9_forget_X9_begins : GoodIn wsX9_forget (wsV RX9 116 RX9 yX9_begins wsX9_begins) := goodIn_app (goodIn_of _ (by decide +kernel)) ggX9_forget_X9_begins
set_option maxRecDepth 20000 in
theorem ggX9_forget_X9_without : GoodIn wsX9_forget wsX9_without := goodIn_r _ [22] (by decide +kernel) (by decide +kernel)
set_option maxRecDepth 20000 in
theorem gX9_forget_X9_without : GoodIn wsX9_forget (va_wsS RX9 249 yX9_without wsX9_without) := goodIn_app (goodIn_of _ (by decide +kernel)) ggX9_forget_X9_without
set_option maxRecDepth 20000 in
theorem ggX9_forget_X9_isSplit : GoodIn wsX9_forget wsX9_isSplit := goodIn_r _ [25, 26, 4, 5, 6, 7, 27, 28, 29] (by decide +kernel) (by decide +kernel)
set_option maxRecDepth 20000 in
theorem gX9_forget_X9_isSplit : GoodIn wsX9_forget (va_wsS RX9 216 yX9_isSplit wsX9_isSplit) := goodIn_app (goodIn_of _ (by decide +kernel)) ggX9_forget_X9_isSplit
set_option maxRecDepth 20000 in
theorem ggX9_forget_X9_placeOf : GoodIn wsX9_forget wsX9_placeOf := goodIn_r _ [33, 2, 19, 49, 50, 51, 52, 53, 54, 55, 56, 57, 58, 59, 60, 61, 62, 63, 64, 65, 66, 67, 68, 69, 70, 71, 72, 73, 74, 75, 76, 77, 78, 79, 80, 81, 82, 83, 84, 85, 86, 87, 88, 89, 90] (by decide +kernel) (by decide +kernel)
set_option maxRecDepth 20000 in
theorem gX9_forget_X9_placeOf : GoodIn wsX9_forget (wsV RX9 226 RX9 yX9_placeOf wsX9_placeOf) := goodIn_app (goodIn_of _ (by decide +kernel)) ggX9_forget_X9_placeOf
set_option maxRecDepth 20000 in
theorem ggX9_forget_X9_comes : GoodIn wsX9_forget wsX9_comes := goodIn_r _ [37, 19, 2, 38, 39, 6, 40, 49, 50, 51, 52, 53, 54, 55, 56, 57, 58, 59, 60, 61, 62, 63, 64, 65, 66, 67, 68, 69, 70, 71, 72, 73, 74, 75, 76, 77, 78, 79, 80, 81, 82, 83, 84, 85, 86, 87, 88, 89, 90] (by decide +kernel) (by decide +kernel)
set_option maxRecDepth 20000 in
theorem gX9_forget_X9_comes : GoodIn wsX9_forget (wsV RX9 222 RX9 yX9_comes wsX9_comes) := goodIn_app (goodIn_of _ (by decide +kernel)) ggX9_forget_X9_comes
set_option maxRecDepth 20000 in
theorem ggX9_forget_X9_ends : GoodIn wsX9_forget wsX9_ends := goodIn_r _ [44, 45, 3, 46, 47, 48, 12, 13, 14, 6, 15, 16, 17, 1, 2, 18, 19, 49, 50, 51, 52, 53, 54, 55, 56, 57, 58, 59, 60, 61, 62, 63, 64, 65, 66, 67, 68, 69, 70, 71, 72, 73, 74, 75, 76, 77, 78, 79, 80, 81, 82, 83, 84, 85, 86, 87, 88, 89, 90] (by decide +kernel) (by decide +kernel)
set_option maxRecDepth 20000 in
theorem gX9_forget_X9_ends : GoodIn wsX9_forget (wsV RX9 119 RX9 yX9_ends wsX9_ends) := goodIn_app (goodIn_of _ (by decide +kernel)) ggX9_forget_X9_ends
theorem dX9_forget_0 : decode cX9_forget 0 = .ok (.iload_n 1, 1) := by decide +kernel
theorem dX9_forget_1 : decode cX9_forget 1 = .ok (.i2l, 1) := by decide +kernel
theorem dX9_forget_2 : decode cX9_forget 2 = .ok (.lconst 0, 1) := by decide +kernel
theorem dX9_forget_3 : decode cX9_forget 3 = .ok (.aload_n 0, 1) := by decide +kernel
theorem dX9_forget_4 : decode cX9_forget 4 = .ok (.getfield 15, 3) := by decide +kernel
theorem dX9_forget_7 : decode cX9_forget 7 = .ok (.iconst 1, 1) := by decide +kernel
theorem dX9_forget_8 : decode cX9_forget 8 = .ok (.isub, 1) := by decide +kernel
theorem dX9_forget_9 : decode cX9_forget 9 = .ok (.i2l, 1) := by decide +kernel
theorem dX9_forget_10 : decode cX9_forget 10 = .ok (.invokestatic 110, 3) := by decide +kernel
theorem dX9_forget_13 : decode cX9_forget 13 = .ok (.ifCond .ne 5, 3) := by decide +kernel
theorem dX9_forget_16 : decode cX9_forget 16 = .ok (.iconst (-1), 1) := by decide +kernel
theorem dX9_forget_17 : decode cX9_forget 17 = .ok (.ireturn, 1) := by decide +kernel
theorem dX9_forget_18 : decode cX9_forget 18 = .ok (.aload_n 0, 1) := by decide +kernel
theorem dX9_forget_19 : decode cX9_forget 19 = .ok (.getfield 15, 3) := by decide +kernel
theorem dX9_forget_22 : decode cX9_forget 22 = .ok (.iconst 3, 1) := by decide +kernel
theorem dX9_forget_23 : decode cX9_forget 23 = .ok (.if_icmp .ne 6, 3) := by decide +kernel
theorem dX9_forget_26 : decode cX9_forget 26 = .ok (.bipush (-5), 2) := by decide +kernel
theorem dX9_forget_28 : decode cX9_forget 28 = .ok (.ireturn, 1) := by decide +kernel
theorem dX9_forget_29 : decode cX9_forget 29 = .ok (.aload_n 0, 1) := by decide +kernel
theorem dX9_forget_30 : decode cX9_forget 30 = .ok (.invokevirtual 116, 3) := by decide +kernel
theorem dX9_forget_33 : decode cX9_forget 33 = .ok (.aload_n 0, 1) := by decide +kernel
theorem dX9_forget_34 : decode cX9_forget 34 = .ok (.getfield 94, 3) := by decide +kernel
theorem dX9_forget_37 : decode cX9_forget 37 = .ok (.istore_n 2, 1) := by decide +kernel
theorem dX9_forget_38 : decode cX9_forget 38 = .ok (.aload_n 0, 1) := by decide +kernel
theorem dX9_forget_39 : decode cX9_forget 39 = .ok (.dup, 1) := by decide +kernel
theorem dX9_forget_40 : decode cX9_forget 40 = .ok (.getfield 15, 3) := by decide +kernel
theorem dX9_forget_43 : decode cX9_forget 43 = .ok (.iconst 1, 1) := by decide +kernel
theorem dX9_forget_44 : decode cX9_forget 44 = .ok (.isub, 1) := by decide +kernel
theorem dX9_forget_45 : decode cX9_forget 45 = .ok (.putfield 15, 3) := by decide +kernel
theorem dX9_forget_48 : decode cX9_forget 48 = .ok (.aload_n 0, 1) := by decide +kernel
theorem dX9_forget_49 : decode cX9_forget 49 = .ok (.iconst 0, 1) := by decide +kernel
theorem dX9_forget_50 : decode cX9_forget 50 = .ok (.putfield 94, 3) := by decide +kernel
theorem dX9_forget_53 : decode cX9_forget 53 = .ok (.iconst 0, 1) := by decide +kernel
theorem dX9_forget_54 : decode cX9_forget 54 = .ok (.istore_n 3, 1) := by decide +kernel
theorem dX9_forget_55 : decode cX9_forget 55 = .ok (.iload_n 3, 1) := by decide +kernel
theorem dX9_forget_56 : decode cX9_forget 56 = .ok (.iload_n 2, 1) := by decide +kernel
theorem dX9_forget_57 : decode cX9_forget 57 = .ok (.if_icmp .ge 55, 3) := by decide +kernel
theorem dX9_forget_60 : decode cX9_forget 60 = .ok (.aload_n 0, 1) := by decide +kernel
theorem dX9_forget_61 : decode cX9_forget 61 = .ok (.getfield 28, 3) := by decide +kernel
theorem dX9_forget_64 : decode cX9_forget 64 = .ok (.bipush 12, 2) := by decide +kernel
theorem dX9_forget_66 : decode cX9_forget 66 = .ok (.iload_n 3, 1) := by decide +kernel
theorem dX9_forget_67 : decode cX9_forget 67 = .ok (.iadd, 1) := by decide +kernel
theorem dX9_forget_68 : decode cX9_forget 68 = .ok (.iaload, 1) := by decide +kernel
theorem dX9_forget_69 : decode cX9_forget 69 = .ok (.iload_n 1, 1) := by decide +kernel
theorem dX9_forget_70 : decode cX9_forget 70 = .ok (.aload_n 0, 1) := by decide +kernel
theorem dX9_forget_71 : decode cX9_forget 71 = .ok (.getfield 15, 3) := by decide +kernel
theorem dX9_forget_74 : decode cX9_forget 74 = .ok (.invokestatic 249, 3) := by decide +kernel
theorem dX9_forget_77 : decode cX9_forget 77 = .ok (.istore 4, 2) := by decide +kernel
theorem dX9_forget_79 : decode cX9_forget 79 = .ok (.iload 4, 2) := by decide +kernel
theorem dX9_forget_81 : decode cX9_forget 81 = .ok (.aload_n 0, 1) := by decide +kernel
theorem dX9_forget_82 : decode cX9_forget 82 = .ok (.getfield 15, 3) := by decide +kernel
theorem dX9_forget_85 : decode cX9_forget 85 = .ok (.invokestatic 216, 3) := by decide +kernel
theorem dX9_forget_88 : decode cX9_forget 88 = .ok (.ifCond .eq 18, 3) := by decide +kernel
theorem dX9_forget_91 : decode cX9_forget 91 = .ok (.aload_n 0, 1) := by decide +kernel
theorem dX9_forget_92 : decode cX9_forget 92 = .ok (.iload 4, 2) := by decide +kernel
theorem dX9_forget_94 : decode cX9_forget 94 = .ok (.invokevirtual 226, 3) := by decide +kernel
theorem dX9_forget_97 : decode cX9_forget 97 = .ok (.ifCond .ge 9, 3) := by decide +kernel
theorem dX9_forget_100 : decode cX9_forget 100 = .ok (.aload_n 0, 1) := by decide +kernel
theorem dX9_forget_101 : decode cX9_forget 101 = .ok (.iload 4, 2) := by decide +kernel
theorem dX9_forget_103 : decode cX9_forget 103 = .ok (.invokevirtual 222, 3) := by decide +kernel
theorem dX9_forget_106 : decode cX9_forget 106 = .ok (.iinc 3 1, 3) := by decide +kernel
theorem dX9_forget_109 : decode cX9_forget 109 = .ok (.goto (-54), 3) := by decide +kernel
theorem dX9_forget_112 : decode cX9_forget 112 = .ok (.aload_n 0, 1) := by decide +kernel
theorem dX9_forget_113 : decode cX9_forget 113 = .ok (.invokevirtual 119, 3) := by decide +kernel
theorem dX9_forget_116 : decode cX9_forget 116 = .ok (.aload_n 0, 1) := by decide +kernel
theorem dX9_forget_117 : decode cX9_forget 117 = .ok (.getfield 94, 3) := by decide +kernel
theorem dX9_forget_120 : decode cX9_forget 120 = .ok (.ireturn, 1) := by decide +kernel
set_option maxRecDepth 20000 in
theorem ggX9_numberAtNode_X9_at : GoodIn wsX9_numberAtNode wsX9_at := goodIn_r _ [8, 1, 9, 10, 11, 12, 13, 7, 14, 15, 16, 17, 18, 48, 49, 50, 51, 52, 53, 54, 55, 56, 57, 58, 59, 60, 61, 62, 63, 64, 65, 66, 67, 68, 69, 70, 71, 72, 73, 74, 75, 76, 77, 78, 79, 80, 81, 82, 83, 84, 85, 86, 87, 88, 89] (by decide +kernel) (by decide +kernel)
set_option maxRecDepth 20000 in
theorem gX9_numberAtNode_X9_at : GoodIn wsX9_numberAtNode (wsV RX9 236 RX9 yX9_at wsX9_at) := goodIn_app (goodIn_of _ (by decide +kernel)) ggX9_numberAtNode_X9_at
set_option maxRecDepth 20000 in
theorem ggX9_numberAtNode_X9_edges : GoodIn wsX9_numberAtNode wsX9_edges := goodIn_r _ [22, 9, 11, 12, 13, 7, 14, 10, 15, 16, 17, 18, 48, 49, 50, 51, 52, 53, 54, 55, 56, 57, 58, 59, 60, 61, 62, 63, 64, 65, 66, 67, 68, 69, 70, 71, 72, 73, 74, 75, 76, 77, 78, 79, 80, 81, 82, 83, 84, 85, 86, 87, 88, 89] (by decide +kernel) (by decide +kernel)
set_option maxRecDepth 20000 in
theorem gX9_numberAtNode_X9_edges : GoodIn wsX9_numberAtNode (wsV RX9 239 RX9 yX9_edges wsX9_edges) := goodIn_app (goodIn_of _ (by decide +kernel)) ggX9_numberAtNode_X9_edges
set_option maxRecDepth 20000 in
theorem ggX9_numberAtNode_X9_numberOf : GoodIn wsX9_numberAtNode wsX9_numberOf := goodIn_r _ [26, 2, 27, 28, 7, 29, 30, 31, 32, 33, 34, 35, 36, 37, 38, 39, 40, 41, 42, 43, 44, 45, 46, 47, 48, 49, 50, 51, 52, 53, 54, 55, 56, 57, 58, 59, 60, 61, 62, 63, 64, 65, 66, 67, 68, 69, 70, 71, 72, 73, 74, 75, 76, 77, 78, 79, 80, 81, 82, 83, 84, 85, 86, 87, 88, 89] (by decide +kernel) (by decide +kernel)
set_option maxRecDepth 20000 in
theorem gX9_numberAtNode_X9_numberOf : GoodIn wsX9_numberAtNode (wsV RX9 165 RX9 yX9_numberOf wsX9_numberOf) := goodIn_app (goodIn_of _ (by decide +kernel)) ggX9_numberAtNode_X9_numberOf
theorem dX9_numberAtNode_0 : decode cX9_numberAtNode 0 = .ok (.aload_n 0, 1) := by decide +kernel
theorem dX9_numberAtNode_1 : decode cX9_numberAtNode 1 = .ok (.iload_n 1, 1) := by decide +kernel
theorem dX9_numberAtNode_2 : decode cX9_numberAtNode 2 = .ok (.invokevirtual 236, 3) := by decide +kernel
theorem dX9_numberAtNode_5 : decode cX9_numberAtNode 5 = .ok (.istore_n 2, 1) := by decide +kernel
theorem dX9_numberAtNode_6 : decode cX9_numberAtNode 6 = .ok (.iconst 0, 1) := by decide +kernel
theorem dX9_numberAtNode_7 : decode cX9_numberAtNode 7 = .ok (.istore_n 3, 1) := by decide +kernel
theorem dX9_numberAtNode_8 : decode cX9_numberAtNode 8 = .ok (.iconst 0, 1) := by decide +kernel
theorem dX9_numberAtNode_9 : decode cX9_numberAtNode 9 = .ok (.istore 4, 2) := by decide +kernel
theorem dX9_numberAtNode_11 : decode cX9_numberAtNode 11 = .ok (.iload 4, 2) := by decide +kernel
theorem dX9_numberAtNode_13 : decode cX9_numberAtNode 13 = .ok (.aload_n 0, 1) := by decide +kernel
theorem dX9_numberAtNode_14 : decode cX9_numberAtNode 14 = .ok (.getfield 15, 3) := by decide +kernel
theorem dX9_numberAtNode_17 : decode cX9_numberAtNode 17 = .ok (.if_icmp .ge 37, 3) := by decide +kernel
theorem dX9_numberAtNode_20 : decode cX9_numberAtNode 20 = .ok (.iload_n 2, 1) := by decide +kernel
theorem dX9_numberAtNode_21 : decode cX9_numberAtNode 21 = .ok (.iload 4, 2) := by decide +kernel
theorem dX9_numberAtNode_23 : decode cX9_numberAtNode 23 = .ok (.ishr, 1) := by decide +kernel
theorem dX9_numberAtNode_24 : decode cX9_numberAtNode 24 = .ok (.iconst 1, 1) := by decide +kernel
theorem dX9_numberAtNode_25 : decode cX9_numberAtNode 25 = .ok (.iand, 1) := by decide +kernel
theorem dX9_numberAtNode_26 : decode cX9_numberAtNode 26 = .ok (.ifCond .ne 6, 3) := by decide +kernel
theorem dX9_numberAtNode_29 : decode cX9_numberAtNode 29 = .ok (.goto 19, 3) := by decide +kernel
theorem dX9_numberAtNode_32 : decode cX9_numberAtNode 32 = .ok (.aload_n 0, 1) := by decide +kernel
theorem dX9_numberAtNode_33 : decode cX9_numberAtNode 33 = .ok (.getfield 31, 3) := by decide +kernel
theorem dX9_numberAtNode_36 : decode cX9_numberAtNode 36 = .ok (.iload_n 3, 1) := by decide +kernel
theorem dX9_numberAtNode_37 : decode cX9_numberAtNode 37 = .ok (.aload_n 0, 1) := by decide +kernel
theorem dX9_numberAtNode_38 : decode cX9_numberAtNode 38 = .ok (.getfield 11, 3) := by decide +kernel
theorem dX9_numberAtNode_41 : decode cX9_numberAtNode 41 = .ok (.iload 4, 2) := by decide +kernel
theorem dX9_numberAtNode_43 : decode cX9_numberAtNode 43 = .ok (.iaload, 1) := by decide +kernel
theorem dX9_numberAtNode_44 : decode cX9_numberAtNode 44 = .ok (.iastore, 1) := by decide +kernel
theorem dX9_numberAtNode_45 : decode cX9_numberAtNode 45 = .ok (.iinc 3 1, 3) := by decide +kernel
theorem dX9_numberAtNode_48 : decode cX9_numberAtNode 48 = .ok (.iinc 4 1, 3) := by decide +kernel
theorem dX9_numberAtNode_51 : decode cX9_numberAtNode 51 = .ok (.goto (-40), 3) := by decide +kernel
theorem dX9_numberAtNode_54 : decode cX9_numberAtNode 54 = .ok (.iload_n 3, 1) := by decide +kernel
theorem dX9_numberAtNode_55 : decode cX9_numberAtNode 55 = .ok (.aload_n 0, 1) := by decide +kernel
theorem dX9_numberAtNode_56 : decode cX9_numberAtNode 56 = .ok (.iload_n 1, 1) := by decide +kernel
theorem dX9_numberAtNode_57 : decode cX9_numberAtNode 57 = .ok (.invokevirtual 239, 3) := by decide +kernel
theorem dX9_numberAtNode_60 : decode cX9_numberAtNode 60 = .ok (.iadd, 1) := by decide +kernel
theorem dX9_numberAtNode_61 : decode cX9_numberAtNode 61 = .ok (.istore 4, 2) := by decide +kernel
theorem dX9_numberAtNode_63 : decode cX9_numberAtNode 63 = .ok (.iload_n 3, 1) := by decide +kernel
theorem dX9_numberAtNode_64 : decode cX9_numberAtNode 64 = .ok (.iload 4, 2) := by decide +kernel
theorem dX9_numberAtNode_66 : decode cX9_numberAtNode 66 = .ok (.if_icmp .ge 16, 3) := by decide +kernel
theorem dX9_numberAtNode_69 : decode cX9_numberAtNode 69 = .ok (.aload_n 0, 1) := by decide +kernel
theorem dX9_numberAtNode_70 : decode cX9_numberAtNode 70 = .ok (.getfield 31, 3) := by decide +kernel
theorem dX9_numberAtNode_73 : decode cX9_numberAtNode 73 = .ok (.iload_n 3, 1) := by decide +kernel
theorem dX9_numberAtNode_74 : decode cX9_numberAtNode 74 = .ok (.iconst 0, 1) := by decide +kernel
theorem dX9_numberAtNode_75 : decode cX9_numberAtNode 75 = .ok (.iastore, 1) := by decide +kernel
theorem dX9_numberAtNode_76 : decode cX9_numberAtNode 76 = .ok (.iinc 3 1, 3) := by decide +kernel
theorem dX9_numberAtNode_79 : decode cX9_numberAtNode 79 = .ok (.goto (-16), 3) := by decide +kernel
theorem dX9_numberAtNode_82 : decode cX9_numberAtNode 82 = .ok (.aload_n 0, 1) := by decide +kernel
theorem dX9_numberAtNode_83 : decode cX9_numberAtNode 83 = .ok (.iconst 0, 1) := by decide +kernel
theorem dX9_numberAtNode_84 : decode cX9_numberAtNode 84 = .ok (.iload_n 3, 1) := by decide +kernel
theorem dX9_numberAtNode_85 : decode cX9_numberAtNode 85 = .ok (.invokevirtual 165, 3) := by decide +kernel
theorem dX9_numberAtNode_88 : decode cX9_numberAtNode 88 = .ok (.lreturn, 1) := by decide +kernel
set_option maxRecDepth 20000 in
theorem ggX9_onTree_X9_numberAtNode : GoodIn wsX9_onTree wsX9_numberAtNode := goodIn_r _ [10, 2, 11, 12, 13, 14, 15, 9, 16, 4, 5, 17, 18, 19, 20, 21, 22, 23, 24, 25, 26, 27, 28, 29, 30, 31, 32, 33, 34, 35, 36, 37, 38, 39, 40, 41, 42, 43, 44, 45, 46, 47, 48, 49, 50, 51, 52, 53, 54, 55, 56, 57, 58, 59, 60, 61, 62, 63, 64, 65, 66, 67, 68, 69, 70, 71, 72, 73, 74, 75, 76, 77, 78, 79, 80, 81, 82, 83, 84, 85, 86, 87, 88, 89, 90, 91, 92, 93, 94, 95] (by decide +kernel) (by decide +kernel)
set_option maxRecDepth 20000 in
theorem gX9_onTree_X9_numberAtNode : GoodIn wsX9_onTree (wsV RX9 253 RX9 yX9_numberAtNode wsX9_numberAtNode) := goodIn_app (goodIn_of _ (by decide +kernel)) ggX9_onTree_X9_numberAtNode
theorem dX9_onTree_0 : decode cX9_onTree 0 = .ok (.aload_n 0, 1) := by decide +kernel
theorem dX9_onTree_1 : decode cX9_onTree 1 = .ok (.getfield 91, 3) := by decide +kernel
theorem dX9_onTree_4 : decode cX9_onTree 4 = .ok (.aload_n 0, 1) := by decide +kernel
theorem dX9_onTree_5 : decode cX9_onTree 5 = .ok (.getfield 15, 3) := by decide +kernel
theorem dX9_onTree_8 : decode cX9_onTree 8 = .ok (.if_icmp .eq 7, 3) := by decide +kernel
theorem dX9_onTree_11 : decode cX9_onTree 11 = .ok (.ldc2_w 181, 3) := by decide +kernel
theorem dX9_onTree_14 : decode cX9_onTree 14 = .ok (.lreturn, 1) := by decide +kernel
theorem dX9_onTree_15 : decode cX9_onTree 15 = .ok (.aload_n 0, 1) := by decide +kernel
theorem dX9_onTree_16 : decode cX9_onTree 16 = .ok (.iconst 0, 1) := by decide +kernel
theorem dX9_onTree_17 : decode cX9_onTree 17 = .ok (.invokevirtual 253, 3) := by decide +kernel
theorem dX9_onTree_20 : decode cX9_onTree 20 = .ok (.lstore_n 1, 1) := by decide +kernel
theorem dX9_onTree_21 : decode cX9_onTree 21 = .ok (.iconst 0, 1) := by decide +kernel
theorem dX9_onTree_22 : decode cX9_onTree 22 = .ok (.istore_n 3, 1) := by decide +kernel
theorem dX9_onTree_23 : decode cX9_onTree 23 = .ok (.iload_n 3, 1) := by decide +kernel
theorem dX9_onTree_24 : decode cX9_onTree 24 = .ok (.aload_n 0, 1) := by decide +kernel
theorem dX9_onTree_25 : decode cX9_onTree 25 = .ok (.getfield 94, 3) := by decide +kernel
theorem dX9_onTree_28 : decode cX9_onTree 28 = .ok (.if_icmp .ge 22, 3) := by decide +kernel
theorem dX9_onTree_31 : decode cX9_onTree 31 = .ok (.lload_n 1, 1) := by decide +kernel
theorem dX9_onTree_32 : decode cX9_onTree 32 = .ok (.aload_n 0, 1) := by decide +kernel
theorem dX9_onTree_33 : decode cX9_onTree 33 = .ok (.aload_n 0, 1) := by decide +kernel
theorem dX9_onTree_34 : decode cX9_onTree 34 = .ok (.getfield 19, 3) := by decide +kernel
theorem dX9_onTree_37 : decode cX9_onTree 37 = .ok (.iload_n 3, 1) := by decide +kernel
theorem dX9_onTree_38 : decode cX9_onTree 38 = .ok (.iaload, 1) := by decide +kernel
theorem dX9_onTree_39 : decode cX9_onTree 39 = .ok (.invokevirtual 253, 3) := by decide +kernel
theorem dX9_onTree_42 : decode cX9_onTree 42 = .ok (.lmul, 1) := by decide +kernel
theorem dX9_onTree_43 : decode cX9_onTree 43 = .ok (.lstore_n 1, 1) := by decide +kernel
theorem dX9_onTree_44 : decode cX9_onTree 44 = .ok (.iinc 3 1, 3) := by decide +kernel
theorem dX9_onTree_47 : decode cX9_onTree 47 = .ok (.goto (-24), 3) := by decide +kernel
theorem dX9_onTree_50 : decode cX9_onTree 50 = .ok (.lload_n 1, 1) := by decide +kernel
theorem dX9_onTree_51 : decode cX9_onTree 51 = .ok (.lreturn, 1) := by decide +kernel
set_option maxRecDepth 20000 in
theorem ggX9_feed_X9_in : GoodIn wsX9_feed wsX9_in := goodIn_r _ [7] (by decide +kernel) (by decide +kernel)
set_option maxRecDepth 20000 in
theorem gX9_feed_X9_in : GoodIn wsX9_feed (va_wsS RX9 110 yX9_in wsX9_in) := goodIn_app (goodIn_of _ (by decide +kernel)) ggX9_feed_X9_in
theorem dX9_feed_0 : decode cX9_feed 0 = .ok (.iload_n 2, 1) := by decide +kernel
theorem dX9_feed_1 : decode cX9_feed 1 = .ok (.i2l, 1) := by decide +kernel
theorem dX9_feed_2 : decode cX9_feed 2 = .ok (.lconst 1, 1) := by decide +kernel
theorem dX9_feed_3 : decode cX9_feed 3 = .ok (.ldc2_w 256, 3) := by decide +kernel
theorem dX9_feed_6 : decode cX9_feed 6 = .ok (.invokestatic 110, 3) := by decide +kernel
theorem dX9_feed_9 : decode cX9_feed 9 = .ok (.ifCond .ne 5, 3) := by decide +kernel
theorem dX9_feed_12 : decode cX9_feed 12 = .ok (.iconst (-1), 1) := by decide +kernel
theorem dX9_feed_13 : decode cX9_feed 13 = .ok (.ireturn, 1) := by decide +kernel
theorem dX9_feed_14 : decode cX9_feed 14 = .ok (.aload_n 0, 1) := by decide +kernel
theorem dX9_feed_15 : decode cX9_feed 15 = .ok (.getfield 258, 3) := by decide +kernel
theorem dX9_feed_18 : decode cX9_feed 18 = .ok (.iload_n 2, 1) := by decide +kernel
theorem dX9_feed_19 : decode cX9_feed 19 = .ok (.iadd, 1) := by decide +kernel
theorem dX9_feed_20 : decode cX9_feed 20 = .ok (.bipush 60, 2) := by decide +kernel
theorem dX9_feed_22 : decode cX9_feed 22 = .ok (.if_icmp .le 6, 3) := by decide +kernel
theorem dX9_feed_25 : decode cX9_feed 25 = .ok (.bipush (-3), 2) := by decide +kernel
theorem dX9_feed_27 : decode cX9_feed 27 = .ok (.ireturn, 1) := by decide +kernel
theorem dX9_feed_28 : decode cX9_feed 28 = .ok (.iload_n 2, 1) := by decide +kernel
theorem dX9_feed_29 : decode cX9_feed 29 = .ok (.iconst 1, 1) := by decide +kernel
theorem dX9_feed_30 : decode cX9_feed 30 = .ok (.isub, 1) := by decide +kernel
theorem dX9_feed_31 : decode cX9_feed 31 = .ok (.istore_n 3, 1) := by decide +kernel
theorem dX9_feed_32 : decode cX9_feed 32 = .ok (.iload_n 3, 1) := by decide +kernel
theorem dX9_feed_33 : decode cX9_feed 33 = .ok (.ifCond .lt 38, 3) := by decide +kernel
theorem dX9_feed_36 : decode cX9_feed 36 = .ok (.aload_n 0, 1) := by decide +kernel
theorem dX9_feed_37 : decode cX9_feed 37 = .ok (.getfield 44, 3) := by decide +kernel
theorem dX9_feed_40 : decode cX9_feed 40 = .ok (.aload_n 0, 1) := by decide +kernel
theorem dX9_feed_41 : decode cX9_feed 41 = .ok (.getfield 258, 3) := by decide +kernel
theorem dX9_feed_44 : decode cX9_feed 44 = .ok (.iload_n 1, 1) := by decide +kernel
theorem dX9_feed_45 : decode cX9_feed 45 = .ok (.bipush 8, 2) := by decide +kernel
theorem dX9_feed_47 : decode cX9_feed 47 = .ok (.iload_n 3, 1) := by decide +kernel
theorem dX9_feed_48 : decode cX9_feed 48 = .ok (.imul, 1) := by decide +kernel
theorem dX9_feed_49 : decode cX9_feed 49 = .ok (.iushr, 1) := by decide +kernel
theorem dX9_feed_50 : decode cX9_feed 50 = .ok (.sipush 255, 3) := by decide +kernel
theorem dX9_feed_53 : decode cX9_feed 53 = .ok (.iand, 1) := by decide +kernel
theorem dX9_feed_54 : decode cX9_feed 54 = .ok (.iastore, 1) := by decide +kernel
theorem dX9_feed_55 : decode cX9_feed 55 = .ok (.aload_n 0, 1) := by decide +kernel
theorem dX9_feed_56 : decode cX9_feed 56 = .ok (.dup, 1) := by decide +kernel
theorem dX9_feed_57 : decode cX9_feed 57 = .ok (.getfield 258, 3) := by decide +kernel
theorem dX9_feed_60 : decode cX9_feed 60 = .ok (.iconst 1, 1) := by decide +kernel
theorem dX9_feed_61 : decode cX9_feed 61 = .ok (.iadd, 1) := by decide +kernel
theorem dX9_feed_62 : decode cX9_feed 62 = .ok (.putfield 258, 3) := by decide +kernel
theorem dX9_feed_65 : decode cX9_feed 65 = .ok (.iinc 3 (-1), 3) := by decide +kernel
theorem dX9_feed_68 : decode cX9_feed 68 = .ok (.goto (-36), 3) := by decide +kernel
theorem dX9_feed_71 : decode cX9_feed 71 = .ok (.aload_n 0, 1) := by decide +kernel
theorem dX9_feed_72 : decode cX9_feed 72 = .ok (.getfield 258, 3) := by decide +kernel
theorem dX9_feed_75 : decode cX9_feed 75 = .ok (.ireturn, 1) := by decide +kernel
theorem dX9_wipe_0 : decode cX9_wipe 0 = .ok (.aload_n 0, 1) := by decide +kernel
theorem dX9_wipe_1 : decode cX9_wipe 1 = .ok (.getfield 258, 3) := by decide +kernel
theorem dX9_wipe_4 : decode cX9_wipe 4 = .ok (.istore_n 1, 1) := by decide +kernel
theorem dX9_wipe_5 : decode cX9_wipe 5 = .ok (.aload_n 0, 1) := by decide +kernel
theorem dX9_wipe_6 : decode cX9_wipe 6 = .ok (.iconst 0, 1) := by decide +kernel
theorem dX9_wipe_7 : decode cX9_wipe 7 = .ok (.putfield 258, 3) := by decide +kernel
theorem dX9_wipe_10 : decode cX9_wipe 10 = .ok (.iload_n 1, 1) := by decide +kernel
theorem dX9_wipe_11 : decode cX9_wipe 11 = .ok (.ireturn, 1) := by decide +kernel
theorem dX9_here_0 : decode cX9_here 0 = .ok (.aload_n 0, 1) := by decide +kernel
theorem dX9_here_1 : decode cX9_here 1 = .ok (.getfield 261, 3) := by decide +kernel
theorem dX9_here_4 : decode cX9_here 4 = .ok (.aload_n 0, 1) := by decide +kernel
theorem dX9_here_5 : decode cX9_here 5 = .ok (.getfield 258, 3) := by decide +kernel
theorem dX9_here_8 : decode cX9_here 8 = .ok (.if_icmp .ge 15, 3) := by decide +kernel
theorem dX9_here_11 : decode cX9_here 11 = .ok (.aload_n 0, 1) := by decide +kernel
theorem dX9_here_12 : decode cX9_here 12 = .ok (.getfield 44, 3) := by decide +kernel
theorem dX9_here_15 : decode cX9_here 15 = .ok (.aload_n 0, 1) := by decide +kernel
theorem dX9_here_16 : decode cX9_here 16 = .ok (.getfield 261, 3) := by decide +kernel
theorem dX9_here_19 : decode cX9_here 19 = .ok (.iaload, 1) := by decide +kernel
theorem dX9_here_20 : decode cX9_here 20 = .ok (.goto 4, 3) := by decide +kernel
theorem dX9_here_23 : decode cX9_here 23 = .ok (.iconst (-1), 1) := by decide +kernel
theorem dX9_here_24 : decode cX9_here 24 = .ok (.ireturn, 1) := by decide +kernel
set_option maxRecDepth 20000 in
theorem ggX9_isFigure_X9_here : GoodIn wsX9_isFigure wsX9_here := goodIn_r _ [7, 8, 9, 10, 14, 15, 16, 17, 18, 19, 20, 21, 22, 23, 24, 25, 26, 27, 28, 29, 30, 31, 32, 33, 34, 35, 36, 37, 38, 39, 40, 41, 42, 43, 44, 45, 46, 47, 48, 49, 50, 51, 52, 53, 54, 55] (by decide +kernel) (by decide +kernel)
set_option maxRecDepth 20000 in
theorem gX9_isFigure_X9_here : GoodIn wsX9_isFigure (wsV RX9 264 RX9 yX9_here wsX9_here) := goodIn_app (goodIn_of _ (by decide +kernel)) ggX9_isFigure_X9_here
set_option maxRecDepth 20000 in
theorem ggX9_isFigure_X9_in : GoodIn wsX9_isFigure wsX9_in := goodIn_r _ [13] (by decide +kernel) (by decide +kernel)
set_option maxRecDepth 20000 in
theorem gX9_isFigure_X9_in : GoodIn wsX9_isFigure (va_wsS RX9 110 yX9_in wsX9_in) := goodIn_app (goodIn_of _ (by decide +kernel)) ggX9_isFigure_X9_in
theorem dX9_isFigure_0 : decode cX9_isFigure 0 = .ok (.aload_n 0, 1) := by decide +kernel
theorem dX9_isFigure_1 : decode cX9_isFigure 1 = .ok (.invokevirtual 264, 3) := by decide +kernel
theorem dX9_isFigure_4 : decode cX9_isFigure 4 = .ok (.i2l, 1) := by decide +kernel
theorem dX9_isFigure_5 : decode cX9_isFigure 5 = .ok (.ldc2_w 267, 3) := by decide +kernel
theorem dX9_isFigure_8 : decode cX9_isFigure 8 = .ok (.ldc2_w 269, 3) := by decide +kernel
theorem dX9_isFigure_11 : decode cX9_isFigure 11 = .ok (.invokestatic 110, 3) := by decide +kernel
theorem dX9_isFigure_14 : decode cX9_isFigure 14 = .ok (.ireturn, 1) := by decide +kernel
set_option maxRecDepth 20000 in
theorem ggX9_figure_X9_isFigure : GoodIn wsX9_figure wsX9_isFigure := goodIn_r _ [8, 9, 10, 11, 12, 13, 7, 14, 2, 15, 3, 16, 17, 18, 19, 20, 21, 22, 23, 24, 25, 26, 27, 28, 29, 30, 31, 32, 33, 34, 35, 36, 37, 38, 39, 40, 41, 42, 43, 44, 45, 46, 47, 48, 49, 50, 51, 52, 53, 54, 55, 56, 57, 58, 59, 60] (by decide +kernel) (by decide +kernel)
set_option maxRecDepth 20000 in
theorem gX9_figure_X9_isFigure : GoodIn wsX9_figure (wsV RX9 275 RX9 yX9_isFigure wsX9_isFigure) := goodIn_app (goodIn_of _ (by decide +kernel)) ggX9_figure_X9_isFigure
theorem dX9_figure_0 : decode cX9_figure 0 = .ok (.aload_n 0, 1) := by decide +kernel
theorem dX9_figure_1 : decode cX9_figure 1 = .ok (.getfield 271, 3) := by decide +kernel
theorem dX9_figure_4 : decode cX9_figure 4 = .ok (.ifCond .ne 10, 3) := by decide +kernel
theorem dX9_figure_7 : decode cX9_figure 7 = .ok (.aload_n 0, 1) := by decide +kernel
theorem dX9_figure_8 : decode cX9_figure 8 = .ok (.invokevirtual 275, 3) := by decide +kernel
theorem dX9_figure_11 : decode cX9_figure 11 = .ok (.ifCond .ne 10, 3) := by decide +kernel
theorem dX9_figure_14 : decode cX9_figure 14 = .ok (.aload_n 0, 1) := by decide +kernel
theorem dX9_figure_15 : decode cX9_figure 15 = .ok (.iconst 1, 1) := by decide +kernel
theorem dX9_figure_16 : decode cX9_figure 16 = .ok (.putfield 271, 3) := by decide +kernel
theorem dX9_figure_19 : decode cX9_figure 19 = .ok (.iconst 0, 1) := by decide +kernel
theorem dX9_figure_20 : decode cX9_figure 20 = .ok (.ireturn, 1) := by decide +kernel
theorem dX9_figure_21 : decode cX9_figure 21 = .ok (.aload_n 0, 1) := by decide +kernel
theorem dX9_figure_22 : decode cX9_figure 22 = .ok (.dup, 1) := by decide +kernel
theorem dX9_figure_23 : decode cX9_figure 23 = .ok (.getfield 261, 3) := by decide +kernel
theorem dX9_figure_26 : decode cX9_figure 26 = .ok (.iconst 1, 1) := by decide +kernel
theorem dX9_figure_27 : decode cX9_figure 27 = .ok (.iadd, 1) := by decide +kernel
theorem dX9_figure_28 : decode cX9_figure 28 = .ok (.putfield 261, 3) := by decide +kernel
theorem dX9_figure_31 : decode cX9_figure 31 = .ok (.aload_n 0, 1) := by decide +kernel
theorem dX9_figure_32 : decode cX9_figure 32 = .ok (.getfield 44, 3) := by decide +kernel
theorem dX9_figure_35 : decode cX9_figure 35 = .ok (.aload_n 0, 1) := by decide +kernel
theorem dX9_figure_36 : decode cX9_figure 36 = .ok (.getfield 261, 3) := by decide +kernel
theorem dX9_figure_39 : decode cX9_figure 39 = .ok (.iconst 1, 1) := by decide +kernel
theorem dX9_figure_40 : decode cX9_figure 40 = .ok (.isub, 1) := by decide +kernel
theorem dX9_figure_41 : decode cX9_figure 41 = .ok (.iaload, 1) := by decide +kernel
theorem dX9_figure_42 : decode cX9_figure 42 = .ok (.bipush 48, 2) := by decide +kernel
theorem dX9_figure_44 : decode cX9_figure 44 = .ok (.isub, 1) := by decide +kernel
theorem dX9_figure_45 : decode cX9_figure 45 = .ok (.ireturn, 1) := by decide +kernel
set_option maxRecDepth 20000 in
theorem ggX9_must_X9_here : GoodIn wsX9_must wsX9_here := goodIn_r _ [7, 2, 8, 9, 10, 11, 12, 13, 14, 15, 16, 17, 18, 19, 20, 21, 22, 23, 24, 25, 26, 27, 28, 29, 30, 31, 32, 33, 34, 35, 36, 37, 38, 39, 40, 41, 42, 43, 44, 45, 46, 47, 48, 49, 50, 51] (by decide +kernel) (by decide +kernel)
set_option maxRecDepth 20000 in
theorem gX9_must_X9_here : GoodIn wsX9_must (wsV RX9 264 RX9 yX9_here wsX9_here) := goodIn_app (goodIn_of _ (by decide +kernel)) ggX9_must_X9_here
theorem dX9_must_0 : decode cX9_must 0 = .ok (.aload_n 0, 1) := by decide +kernel
theorem dX9_must_1 : decode cX9_must 1 = .ok (.aload_n 0, 1) := by decide +kernel
theorem dX9_must_2 : decode cX9_must 2 = .ok (.getfield 271, 3) := by decide +kernel
theorem dX9_must_5 : decode cX9_must 5 = .ok (.ifCond .ne 11, 3) := by decide +kernel
theorem dX9_must_8 : decode cX9_must 8 = .ok (.aload_n 0, 1) := by decide +kernel
theorem dX9_must_9 : decode cX9_must 9 = .ok (.invokevirtual 264, 3) := by decide +kernel
theorem dX9_must_12 : decode cX9_must 12 = .ok (.iload_n 1, 1) := by decide +kernel
theorem dX9_must_13 : decode cX9_must 13 = .ok (.if_icmp .eq 7, 3) := by decide +kernel
theorem dX9_must_16 : decode cX9_must 16 = .ok (.iconst 1, 1) := by decide +kernel
theorem dX9_must_17 : decode cX9_must 17 = .ok (.goto 4, 3) := by decide +kernel
theorem dX9_must_20 : decode cX9_must 20 = .ok (.iconst 0, 1) := by decide +kernel
theorem dX9_must_21 : decode cX9_must 21 = .ok (.putfield 271, 3) := by decide +kernel
theorem dX9_must_24 : decode cX9_must 24 = .ok (.aload_n 0, 1) := by decide +kernel
theorem dX9_must_25 : decode cX9_must 25 = .ok (.dup, 1) := by decide +kernel
theorem dX9_must_26 : decode cX9_must 26 = .ok (.getfield 261, 3) := by decide +kernel
theorem dX9_must_29 : decode cX9_must 29 = .ok (.aload_n 0, 1) := by decide +kernel
theorem dX9_must_30 : decode cX9_must 30 = .ok (.getfield 271, 3) := by decide +kernel
theorem dX9_must_33 : decode cX9_must 33 = .ok (.ifCond .eq 7, 3) := by decide +kernel
theorem dX9_must_36 : decode cX9_must 36 = .ok (.iconst 0, 1) := by decide +kernel
theorem dX9_must_37 : decode cX9_must 37 = .ok (.goto 4, 3) := by decide +kernel
theorem dX9_must_40 : decode cX9_must 40 = .ok (.iconst 1, 1) := by decide +kernel
theorem dX9_must_41 : decode cX9_must 41 = .ok (.iadd, 1) := by decide +kernel
theorem dX9_must_42 : decode cX9_must 42 = .ok (.putfield 261, 3) := by decide +kernel
theorem dX9_must_45 : decode cX9_must 45 = .ok (.return_, 1) := by decide +kernel
set_option maxRecDepth 20000 in
theorem ggX9_markHere_X9_figure : GoodIn wsX9_markHere wsX9_figure := goodIn_r _ [10, 4, 3, 11, 12, 13, 14, 9, 15, 16, 17, 18, 19, 20, 21, 22, 23, 24, 25, 26, 27, 28, 29, 30, 31, 32, 33, 34, 35, 36, 37, 38, 39, 40, 41, 42, 43, 44, 45, 46, 47, 48, 49, 50, 51, 52, 53, 54, 55, 56, 57, 58, 59, 60, 61, 62, 63, 64, 65, 66, 67] (by decide +kernel) (by decide +kernel)
set_option maxRecDepth 20000 in
theorem gX9_markHere_X9_figure : GoodIn wsX9_markHere (wsV RX9 282 RX9 yX9_figure wsX9_figure) := goodIn_app (goodIn_of _ (by decide +kernel)) ggX9_markHere_X9_figure
set_option maxRecDepth 20000 in
theorem ggX9_markHere_X9_isFigure : GoodIn wsX9_markHere wsX9_isFigure := goodIn_r _ [15, 16, 17, 18, 19, 20, 9, 21, 3, 22, 11, 23, 24, 25, 26, 27, 28, 29, 30, 31, 32, 33, 34, 35, 36, 37, 38, 39, 40, 41, 42, 43, 44, 45, 46, 47, 48, 49, 50, 51, 52, 53, 54, 55, 56, 57, 58, 59, 60, 61, 62, 63, 64, 65, 66, 67] (by decide +kernel) (by decide +kernel)
set_option maxRecDepth 20000 in
theorem gX9_markHere_X9_isFigure : GoodIn wsX9_markHere (wsV RX9 275 RX9 yX9_isFigure wsX9_isFigure) := goodIn_app (goodIn_of _ (by decide +kernel)) ggX9_markHere_X9_isFigure
theorem dX9_markHere_0 : decode cX9_markHere 0 = .ok (.aload_n 0, 1) := by decide +kernel
theorem dX9_markHere_1 : decode cX9_markHere 1 = .ok (.getfield 50, 3) := by decide +kernel
theorem dX9_markHere_4 : decode cX9_markHere 4 = .ok (.aload_n 0, 1) := by decide +kernel
theorem dX9_markHere_5 : decode cX9_markHere 5 = .ok (.getfield 279, 3) := by decide +kernel
theorem dX9_markHere_8 : decode cX9_markHere 8 = .ok (.aload_n 0, 1) := by decide +kernel
theorem dX9_markHere_9 : decode cX9_markHere 9 = .ok (.getfield 261, 3) := by decide +kernel
theorem dX9_markHere_12 : decode cX9_markHere 12 = .ok (.iastore, 1) := by decide +kernel
theorem dX9_markHere_13 : decode cX9_markHere 13 = .ok (.aload_n 0, 1) := by decide +kernel
theorem dX9_markHere_14 : decode cX9_markHere 14 = .ok (.invokevirtual 282, 3) := by decide +kernel
theorem dX9_markHere_17 : decode cX9_markHere 17 = .ok (.istore_n 1, 1) := by decide +kernel
theorem dX9_markHere_18 : decode cX9_markHere 18 = .ok (.aload_n 0, 1) := by decide +kernel
theorem dX9_markHere_19 : decode cX9_markHere 19 = .ok (.getfield 271, 3) := by decide +kernel
theorem dX9_markHere_22 : decode cX9_markHere 22 = .ok (.ifCond .ne 20, 3) := by decide +kernel
theorem dX9_markHere_25 : decode cX9_markHere 25 = .ok (.aload_n 0, 1) := by decide +kernel
theorem dX9_markHere_26 : decode cX9_markHere 26 = .ok (.invokevirtual 275, 3) := by decide +kernel
theorem dX9_markHere_29 : decode cX9_markHere 29 = .ok (.ifCond .eq 13, 3) := by decide +kernel
theorem dX9_markHere_32 : decode cX9_markHere 32 = .ok (.bipush 10, 2) := by decide +kernel
theorem dX9_markHere_34 : decode cX9_markHere 34 = .ok (.iload_n 1, 1) := by decide +kernel
theorem dX9_markHere_35 : decode cX9_markHere 35 = .ok (.imul, 1) := by decide +kernel
theorem dX9_markHere_36 : decode cX9_markHere 36 = .ok (.aload_n 0, 1) := by decide +kernel
theorem dX9_markHere_37 : decode cX9_markHere 37 = .ok (.invokevirtual 282, 3) := by decide +kernel
theorem dX9_markHere_40 : decode cX9_markHere 40 = .ok (.iadd, 1) := by decide +kernel
theorem dX9_markHere_41 : decode cX9_markHere 41 = .ok (.istore_n 1, 1) := by decide +kernel
theorem dX9_markHere_42 : decode cX9_markHere 42 = .ok (.aload_n 0, 1) := by decide +kernel
theorem dX9_markHere_43 : decode cX9_markHere 43 = .ok (.getfield 47, 3) := by decide +kernel
theorem dX9_markHere_46 : decode cX9_markHere 46 = .ok (.aload_n 0, 1) := by decide +kernel
theorem dX9_markHere_47 : decode cX9_markHere 47 = .ok (.getfield 279, 3) := by decide +kernel
theorem dX9_markHere_50 : decode cX9_markHere 50 = .ok (.iload_n 1, 1) := by decide +kernel
theorem dX9_markHere_51 : decode cX9_markHere 51 = .ok (.iastore, 1) := by decide +kernel
theorem dX9_markHere_52 : decode cX9_markHere 52 = .ok (.aload_n 0, 1) := by decide +kernel
theorem dX9_markHere_53 : decode cX9_markHere 53 = .ok (.dup, 1) := by decide +kernel
theorem dX9_markHere_54 : decode cX9_markHere 54 = .ok (.getfield 279, 3) := by decide +kernel
theorem dX9_markHere_57 : decode cX9_markHere 57 = .ok (.iconst 1, 1) := by decide +kernel
theorem dX9_markHere_58 : decode cX9_markHere 58 = .ok (.iadd, 1) := by decide +kernel
theorem dX9_markHere_59 : decode cX9_markHere 59 = .ok (.putfield 279, 3) := by decide +kernel
theorem dX9_markHere_62 : decode cX9_markHere 62 = .ok (.return_, 1) := by decide +kernel
set_option maxRecDepth 20000 in
theorem ggX9_splitHere_X9_isFigure : GoodIn wsX9_splitHere wsX9_isFigure := goodIn_r _ [10, 11, 12, 13, 14, 15, 9, 16, 3, 17, 18, 19, 20, 21, 26, 27, 28, 29, 30, 31, 32, 33, 34, 35, 36, 37, 38, 39, 40, 41, 42, 43, 44, 45, 46, 47, 48, 49, 50, 51, 52, 53, 54, 55, 56, 57, 58, 59, 60, 61, 62, 63, 64, 65, 66, 67] (by decide +kernel) (by decide +kernel)
set_option maxRecDepth 20000 in
theorem gX9_splitHere_X9_isFigure : GoodIn wsX9_splitHere (wsV RX9 275 RX9 yX9_isFigure wsX9_isFigure) := goodIn_app (goodIn_of _ (by decide +kernel)) ggX9_splitHere_X9_isFigure
set_option maxRecDepth 20000 in
theorem ggX9_splitHere_X9_here : GoodIn wsX9_splitHere wsX9_here := goodIn_r _ [16, 3, 17, 18, 26, 27, 28, 29, 30, 31, 32, 33, 34, 35, 36, 37, 38, 39, 40, 41, 42, 43, 44, 45, 46, 47, 48, 49, 50, 51, 52, 53, 54, 55, 56, 57, 58, 59, 60, 61, 62, 63, 64, 65, 66, 67] (by decide +kernel) (by decide +kernel)
set_option maxRecDepth 20000 in
theorem gX9_splitHere_X9_here : GoodIn wsX9_splitHere (wsV RX9 264 RX9 yX9_here wsX9_here) := goodIn_app (goodIn_of _ (by decide +kernel)) ggX9_splitHere_X9_here
set_option maxRecDepth 20000 in
theorem ggX9_splitHere_X9_figure : GoodIn wsX9_splitHere wsX9_figure := goodIn_r _ [25, 4, 3, 18, 6, 7, 8, 9, 10, 11, 12, 13, 14, 15, 16, 17, 19, 20, 21, 26, 27, 28, 29, 30, 31, 32, 33, 34, 35, 36, 37, 38, 39, 40, 41, 42, 43, 44, 45, 46, 47, 48, 49, 50, 51, 52, 53, 54, 55, 56, 57, 58, 59, 60, 61, 62, 63, 64, 65, 66, 67] (by decide +kernel) (by decide +kernel)
set_option maxRecDepth 20000 in
theorem gX9_splitHere_X9_figure : GoodIn wsX9_splitHere (wsV RX9 282 RX9 yX9_figure wsX9_figure) := goodIn_app (goodIn_of _ (by decide +kernel)) ggX9_splitHere_X9_figure
theorem dX9_splitHere_0 : decode cX9_splitHere 0 = .ok (.aload_n 0, 1) := by decide +kernel
theorem dX9_splitHere_1 : decode cX9_splitHere 1 = .ok (.getfield 56, 3) := by decide +kernel
theorem dX9_splitHere_4 : decode cX9_splitHere 4 = .ok (.aload_n 0, 1) := by decide +kernel
theorem dX9_splitHere_5 : decode cX9_splitHere 5 = .ok (.getfield 285, 3) := by decide +kernel
theorem dX9_splitHere_8 : decode cX9_splitHere 8 = .ok (.aload_n 0, 1) := by decide +kernel
theorem dX9_splitHere_9 : decode cX9_splitHere 9 = .ok (.getfield 261, 3) := by decide +kernel
theorem dX9_splitHere_12 : decode cX9_splitHere 12 = .ok (.iastore, 1) := by decide +kernel
theorem dX9_splitHere_13 : decode cX9_splitHere 13 = .ok (.iconst 0, 1) := by decide +kernel
theorem dX9_splitHere_14 : decode cX9_splitHere 14 = .ok (.istore_n 1, 1) := by decide +kernel
theorem dX9_splitHere_15 : decode cX9_splitHere 15 = .ok (.iconst (-1), 1) := by decide +kernel
theorem dX9_splitHere_16 : decode cX9_splitHere 16 = .ok (.istore_n 2, 1) := by decide +kernel
theorem dX9_splitHere_17 : decode cX9_splitHere 17 = .ok (.iconst 0, 1) := by decide +kernel
theorem dX9_splitHere_18 : decode cX9_splitHere 18 = .ok (.istore_n 3, 1) := by decide +kernel
theorem dX9_splitHere_19 : decode cX9_splitHere 19 = .ok (.iload_n 3, 1) := by decide +kernel
theorem dX9_splitHere_20 : decode cX9_splitHere 20 = .ok (.iconst 4, 1) := by decide +kernel
theorem dX9_splitHere_21 : decode cX9_splitHere 21 = .ok (.if_icmp .ge 65, 3) := by decide +kernel
theorem dX9_splitHere_24 : decode cX9_splitHere 24 = .ok (.aload_n 0, 1) := by decide +kernel
theorem dX9_splitHere_25 : decode cX9_splitHere 25 = .ok (.getfield 271, 3) := by decide +kernel
theorem dX9_splitHere_28 : decode cX9_splitHere 28 = .ok (.ifCond .ne 58, 3) := by decide +kernel
theorem dX9_splitHere_31 : decode cX9_splitHere 31 = .ok (.iload_n 3, 1) := by decide +kernel
theorem dX9_splitHere_32 : decode cX9_splitHere 32 = .ok (.iconst 1, 1) := by decide +kernel
theorem dX9_splitHere_33 : decode cX9_splitHere 33 = .ok (.if_icmp .le 13, 3) := by decide +kernel
theorem dX9_splitHere_36 : decode cX9_splitHere 36 = .ok (.aload_n 0, 1) := by decide +kernel
theorem dX9_splitHere_37 : decode cX9_splitHere 37 = .ok (.invokevirtual 275, 3) := by decide +kernel
theorem dX9_splitHere_40 : decode cX9_splitHere 40 = .ok (.ifCond .ne 6, 3) := by decide +kernel
theorem dX9_splitHere_43 : decode cX9_splitHere 43 = .ok (.goto 43, 3) := by decide +kernel
theorem dX9_splitHere_46 : decode cX9_splitHere 46 = .ok (.aload_n 0, 1) := by decide +kernel
theorem dX9_splitHere_47 : decode cX9_splitHere 47 = .ok (.invokevirtual 275, 3) := by decide +kernel
theorem dX9_splitHere_50 : decode cX9_splitHere 50 = .ok (.ifCond .eq 19, 3) := by decide +kernel
theorem dX9_splitHere_53 : decode cX9_splitHere 53 = .ok (.aload_n 0, 1) := by decide +kernel
theorem dX9_splitHere_54 : decode cX9_splitHere 54 = .ok (.invokevirtual 264, 3) := by decide +kernel
theorem dX9_splitHere_57 : decode cX9_splitHere 57 = .ok (.bipush 48, 2) := by decide +kernel
theorem dX9_splitHere_59 : decode cX9_splitHere 59 = .ok (.isub, 1) := by decide +kernel
theorem dX9_splitHere_60 : decode cX9_splitHere 60 = .ok (.iload_n 2, 1) := by decide +kernel
theorem dX9_splitHere_61 : decode cX9_splitHere 61 = .ok (.if_icmp .gt 8, 3) := by decide +kernel
theorem dX9_splitHere_64 : decode cX9_splitHere 64 = .ok (.aload_n 0, 1) := by decide +kernel
theorem dX9_splitHere_65 : decode cX9_splitHere 65 = .ok (.iconst 1, 1) := by decide +kernel
theorem dX9_splitHere_66 : decode cX9_splitHere 66 = .ok (.putfield 271, 3) := by decide +kernel
theorem dX9_splitHere_69 : decode cX9_splitHere 69 = .ok (.aload_n 0, 1) := by decide +kernel
theorem dX9_splitHere_70 : decode cX9_splitHere 70 = .ok (.invokevirtual 282, 3) := by decide +kernel
theorem dX9_splitHere_73 : decode cX9_splitHere 73 = .ok (.istore_n 2, 1) := by decide +kernel
theorem dX9_splitHere_74 : decode cX9_splitHere 74 = .ok (.iload_n 1, 1) := by decide +kernel
theorem dX9_splitHere_75 : decode cX9_splitHere 75 = .ok (.iconst 1, 1) := by decide +kernel
theorem dX9_splitHere_76 : decode cX9_splitHere 76 = .ok (.iload_n 2, 1) := by decide +kernel
theorem dX9_splitHere_77 : decode cX9_splitHere 77 = .ok (.ishl, 1) := by decide +kernel
theorem dX9_splitHere_78 : decode cX9_splitHere 78 = .ok (.ior, 1) := by decide +kernel
theorem dX9_splitHere_79 : decode cX9_splitHere 79 = .ok (.istore_n 1, 1) := by decide +kernel
theorem dX9_splitHere_80 : decode cX9_splitHere 80 = .ok (.iinc 3 1, 3) := by decide +kernel
theorem dX9_splitHere_83 : decode cX9_splitHere 83 = .ok (.goto (-64), 3) := by decide +kernel
theorem dX9_splitHere_86 : decode cX9_splitHere 86 = .ok (.aload_n 0, 1) := by decide +kernel
theorem dX9_splitHere_87 : decode cX9_splitHere 87 = .ok (.getfield 53, 3) := by decide +kernel
theorem dX9_splitHere_90 : decode cX9_splitHere 90 = .ok (.aload_n 0, 1) := by decide +kernel
theorem dX9_splitHere_91 : decode cX9_splitHere 91 = .ok (.getfield 285, 3) := by decide +kernel
theorem dX9_splitHere_94 : decode cX9_splitHere 94 = .ok (.iload_n 1, 1) := by decide +kernel
theorem dX9_splitHere_95 : decode cX9_splitHere 95 = .ok (.iastore, 1) := by decide +kernel
theorem dX9_splitHere_96 : decode cX9_splitHere 96 = .ok (.aload_n 0, 1) := by decide +kernel
theorem dX9_splitHere_97 : decode cX9_splitHere 97 = .ok (.dup, 1) := by decide +kernel
theorem dX9_splitHere_98 : decode cX9_splitHere 98 = .ok (.getfield 285, 3) := by decide +kernel
theorem dX9_splitHere_101 : decode cX9_splitHere 101 = .ok (.iconst 1, 1) := by decide +kernel
theorem dX9_splitHere_102 : decode cX9_splitHere 102 = .ok (.iadd, 1) := by decide +kernel
theorem dX9_splitHere_103 : decode cX9_splitHere 103 = .ok (.putfield 285, 3) := by decide +kernel
theorem dX9_splitHere_106 : decode cX9_splitHere 106 = .ok (.return_, 1) := by decide +kernel
set_option maxRecDepth 20000 in
theorem ggX9_form_X9_figure : GoodIn wsX9_form wsX9_figure := goodIn_r _ [14, 2, 1, 15, 16, 17, 18, 13, 19, 20, 21, 22, 23, 24, 25, 9, 26, 27, 28, 45, 46, 47, 48, 49, 50, 51, 52, 53, 54, 55, 56, 57, 58, 59, 60, 61, 62, 63, 64, 65, 66, 67, 68, 69, 70, 71, 72, 73, 74, 75, 76, 77, 78, 79, 80, 81, 82, 83, 84, 85, 86] (by decide +kernel) (by decide +kernel)
set_option maxRecDepth 20000 in
theorem gX9_form_X9_figure : GoodIn wsX9_form (wsV RX9 282 RX9 yX9_figure wsX9_figure) := goodIn_app (goodIn_of _ (by decide +kernel)) ggX9_form_X9_figure
set_option maxRecDepth 20000 in
theorem ggX9_form_X9_must : GoodIn wsX9_form wsX9_must := goodIn_r _ [32, 2, 1, 22, 23, 24, 13, 25, 9, 15, 45, 46, 47, 48, 49, 50, 51, 52, 53, 54, 55, 56, 57, 58, 59, 60, 61, 62, 63, 64, 65, 66, 67, 68, 69, 70, 71, 72, 73, 74, 75, 76, 77, 78, 79, 80, 81, 82, 83, 84, 85, 86] (by decide +kernel) (by decide +kernel)
set_option maxRecDepth 20000 in
theorem gX9_form_X9_must : GoodIn wsX9_form (wsV RX9 294 RX9 yX9_must wsX9_must) := goodIn_app (goodIn_of _ (by decide +kernel)) ggX9_form_X9_must
set_option maxRecDepth 20000 in
theorem ggX9_form_X9_isFigure : GoodIn wsX9_form wsX9_isFigure := goodIn_r _ [19, 20, 21, 22, 23, 24, 13, 25, 1, 9, 15, 26, 27, 28, 45, 46, 47, 48, 49, 50, 51, 52, 53, 54, 55, 56, 57, 58, 59, 60, 61, 62, 63, 64, 65, 66, 67, 68, 69, 70, 71, 72, 73, 74, 75, 76, 77, 78, 79, 80, 81, 82, 83, 84, 85, 86] (by decide +kernel) (by decide +kernel)
set_option maxRecDepth 20000 in
theorem gX9_form_X9_isFigure : GoodIn wsX9_form (wsV RX9 275 RX9 yX9_isFigure wsX9_isFigure) := goodIn_app (goodIn_of _ (by decide +kernel)) ggX9_form_X9_isFigure
set_option maxRecDepth 20000 in
theorem ggX9_form_X9_markHere : GoodIn wsX9_form wsX9_markHere := goodIn_r _ [36, 37, 3, 1, 2, 38, 10, 11, 12, 13, 14, 15, 16, 17, 18, 19, 20, 21, 22, 23, 24, 25, 9, 26, 27, 28, 45, 46, 47, 48, 49, 50, 51, 52, 53, 54, 55, 56, 57, 58, 59, 60, 61, 62, 63, 64, 65, 66, 67, 68, 69, 70, 71, 72, 73, 74, 75, 76, 77, 78, 79, 80, 81, 82, 83, 84, 85, 86] (by decide +kernel) (by decide +kernel)
set_option maxRecDepth 20000 in
theorem gX9_form_X9_markHere : GoodIn wsX9_form (wsV RX9 297 RX9 yX9_markHere wsX9_markHere) := goodIn_app (goodIn_of _ (by decide +kernel)) ggX9_form_X9_markHere
set_option maxRecDepth 20000 in
theorem ggX9_form_X9_here : GoodIn wsX9_form wsX9_here := goodIn_r _ [25, 1, 9, 15, 45, 46, 47, 48, 49, 50, 51, 52, 53, 54, 55, 56, 57, 58, 59, 60, 61, 62, 63, 64, 65, 66, 67, 68, 69, 70, 71, 72, 73, 74, 75, 76, 77, 78, 79, 80, 81, 82, 83, 84, 85, 86] (by decide +kernel) (by decide +kernel)
set_option maxRecDepth 20000 in
theorem gX9_form_X9_here : GoodIn wsX9_form (wsV RX9 264 RX9 yX9_here wsX9_here) := goodIn_app (goodIn_of _ (by decide +kernel)) ggX9_form_X9_here
set_option maxRecDepth 20000 in
theorem ggX9_form_X9_splitHere : GoodIn wsX9_form wsX9_splitHere := goodIn_r _ [42, 43, 4, 1, 2, 44, 16, 17, 18, 13, 19, 20, 21, 22, 23, 24, 25, 9, 15, 26, 27, 28, 10, 11, 12, 14, 45, 46, 47, 48, 49, 50, 51, 52, 53, 54, 55, 56, 57, 58, 59, 60, 61, 62, 63, 64, 65, 66, 67, 68, 69, 70, 71, 72, 73, 74, 75, 76, 77, 78, 79, 80, 81, 82, 83, 84, 85, 86] (by decide +kernel) (by decide +kernel)
set_option maxRecDepth 20000 in
theorem gX9_form_X9_splitHere : GoodIn wsX9_form (wsV RX9 306 RX9 yX9_splitHere wsX9_splitHere) := goodIn_app (goodIn_of _ (by decide +kernel)) ggX9_form_X9_splitHere
theorem dX9_form_0 : decode cX9_form 0 = .ok (.aload_n 0, 1) := by decide +kernel
theorem dX9_form_1 : decode cX9_form 1 = .ok (.iconst 0, 1) := by decide +kernel
theorem dX9_form_2 : decode cX9_form 2 = .ok (.putfield 261, 3) := by decide +kernel
theorem dX9_form_5 : decode cX9_form 5 = .ok (.aload_n 0, 1) := by decide +kernel
theorem dX9_form_6 : decode cX9_form 6 = .ok (.iconst 0, 1) := by decide +kernel
theorem dX9_form_7 : decode cX9_form 7 = .ok (.putfield 271, 3) := by decide +kernel
theorem dX9_form_10 : decode cX9_form 10 = .ok (.aload_n 0, 1) := by decide +kernel
theorem dX9_form_11 : decode cX9_form 11 = .ok (.iconst 0, 1) := by decide +kernel
theorem dX9_form_12 : decode cX9_form 12 = .ok (.putfield 279, 3) := by decide +kernel
theorem dX9_form_15 : decode cX9_form 15 = .ok (.aload_n 0, 1) := by decide +kernel
theorem dX9_form_16 : decode cX9_form 16 = .ok (.iconst 0, 1) := by decide +kernel
theorem dX9_form_17 : decode cX9_form 17 = .ok (.putfield 285, 3) := by decide +kernel
theorem dX9_form_20 : decode cX9_form 20 = .ok (.aload_n 0, 1) := by decide +kernel
theorem dX9_form_21 : decode cX9_form 21 = .ok (.iconst 0, 1) := by decide +kernel
theorem dX9_form_22 : decode cX9_form 22 = .ok (.putfield 288, 3) := by decide +kernel
theorem dX9_form_25 : decode cX9_form 25 = .ok (.aload_n 0, 1) := by decide +kernel
theorem dX9_form_26 : decode cX9_form 26 = .ok (.aload_n 0, 1) := by decide +kernel
theorem dX9_form_27 : decode cX9_form 27 = .ok (.invokevirtual 282, 3) := by decide +kernel
theorem dX9_form_30 : decode cX9_form 30 = .ok (.putfield 291, 3) := by decide +kernel
theorem dX9_form_33 : decode cX9_form 33 = .ok (.aload_n 0, 1) := by decide +kernel
theorem dX9_form_34 : decode cX9_form 34 = .ok (.bipush 58, 2) := by decide +kernel
theorem dX9_form_36 : decode cX9_form 36 = .ok (.invokevirtual 294, 3) := by decide +kernel
theorem dX9_form_39 : decode cX9_form 39 = .ok (.aload_n 0, 1) := by decide +kernel
theorem dX9_form_40 : decode cX9_form 40 = .ok (.getfield 271, 3) := by decide +kernel
theorem dX9_form_43 : decode cX9_form 43 = .ok (.ifCond .ne 56, 3) := by decide +kernel
theorem dX9_form_46 : decode cX9_form 46 = .ok (.aload_n 0, 1) := by decide +kernel
theorem dX9_form_47 : decode cX9_form 47 = .ok (.invokevirtual 275, 3) := by decide +kernel
theorem dX9_form_50 : decode cX9_form 50 = .ok (.ifCond .eq 49, 3) := by decide +kernel
theorem dX9_form_53 : decode cX9_form 53 = .ok (.aload_n 0, 1) := by decide +kernel
theorem dX9_form_54 : decode cX9_form 54 = .ok (.invokevirtual 297, 3) := by decide +kernel
theorem dX9_form_57 : decode cX9_form 57 = .ok (.aload_n 0, 1) := by decide +kernel
theorem dX9_form_58 : decode cX9_form 58 = .ok (.getfield 271, 3) := by decide +kernel
theorem dX9_form_61 : decode cX9_form 61 = .ok (.ifCond .ne 38, 3) := by decide +kernel
theorem dX9_form_64 : decode cX9_form 64 = .ok (.aload_n 0, 1) := by decide +kernel
theorem dX9_form_65 : decode cX9_form 65 = .ok (.invokevirtual 264, 3) := by decide +kernel
theorem dX9_form_68 : decode cX9_form 68 = .ok (.bipush 44, 2) := by decide +kernel
theorem dX9_form_70 : decode cX9_form 70 = .ok (.if_icmp .ne 29, 3) := by decide +kernel
theorem dX9_form_73 : decode cX9_form 73 = .ok (.aload_n 0, 1) := by decide +kernel
theorem dX9_form_74 : decode cX9_form 74 = .ok (.getfield 279, 3) := by decide +kernel
theorem dX9_form_77 : decode cX9_form 77 = .ok (.bipush 8, 2) := by decide +kernel
theorem dX9_form_79 : decode cX9_form 79 = .ok (.if_icmp .ge 20, 3) := by decide +kernel
theorem dX9_form_82 : decode cX9_form 82 = .ok (.aload_n 0, 1) := by decide +kernel
theorem dX9_form_83 : decode cX9_form 83 = .ok (.dup, 1) := by decide +kernel
theorem dX9_form_84 : decode cX9_form 84 = .ok (.getfield 261, 3) := by decide +kernel
theorem dX9_form_87 : decode cX9_form 87 = .ok (.iconst 1, 1) := by decide +kernel
theorem dX9_form_88 : decode cX9_form 88 = .ok (.iadd, 1) := by decide +kernel
theorem dX9_form_89 : decode cX9_form 89 = .ok (.putfield 261, 3) := by decide +kernel
theorem dX9_form_92 : decode cX9_form 92 = .ok (.aload_n 0, 1) := by decide +kernel
theorem dX9_form_93 : decode cX9_form 93 = .ok (.invokevirtual 297, 3) := by decide +kernel
theorem dX9_form_96 : decode cX9_form 96 = .ok (.goto (-39), 3) := by decide +kernel
theorem dX9_form_99 : decode cX9_form 99 = .ok (.aload_n 0, 1) := by decide +kernel
theorem dX9_form_100 : decode cX9_form 100 = .ok (.getfield 271, 3) := by decide +kernel
theorem dX9_form_103 : decode cX9_form 103 = .ok (.ifCond .ne 84, 3) := by decide +kernel
theorem dX9_form_106 : decode cX9_form 106 = .ok (.aload_n 0, 1) := by decide +kernel
theorem dX9_form_107 : decode cX9_form 107 = .ok (.invokevirtual 264, 3) := by decide +kernel
theorem dX9_form_110 : decode cX9_form 110 = .ok (.bipush 47, 2) := by decide +kernel
theorem dX9_form_112 : decode cX9_form 112 = .ok (.if_icmp .ne 75, 3) := by decide +kernel
theorem dX9_form_115 : decode cX9_form 115 = .ok (.aload_n 0, 1) := by decide +kernel
theorem dX9_form_116 : decode cX9_form 116 = .ok (.dup, 1) := by decide +kernel
theorem dX9_form_117 : decode cX9_form 117 = .ok (.getfield 261, 3) := by decide +kernel
theorem dX9_form_120 : decode cX9_form 120 = .ok (.iconst 1, 1) := by decide +kernel
theorem dX9_form_121 : decode cX9_form 121 = .ok (.iadd, 1) := by decide +kernel
theorem dX9_form_122 : decode cX9_form 122 = .ok (.putfield 261, 3) := by decide +kernel
theorem dX9_form_125 : decode cX9_form 125 = .ok (.aload_n 0, 1) := by decide +kernel
theorem dX9_form_126 : decode cX9_form 126 = .ok (.iconst 1, 1) := by decide +kernel
theorem dX9_form_127 : decode cX9_form 127 = .ok (.putfield 288, 3) := by decide +kernel
theorem dX9_form_130 : decode cX9_form 130 = .ok (.aload_n 0, 1) := by decide +kernel
theorem dX9_form_131 : decode cX9_form 131 = .ok (.aload_n 0, 1) := by decide +kernel
theorem dX9_form_132 : decode cX9_form 132 = .ok (.getfield 261, 3) := by decide +kernel
theorem dX9_form_135 : decode cX9_form 135 = .ok (.putfield 300, 3) := by decide +kernel
theorem dX9_form_138 : decode cX9_form 138 = .ok (.aload_n 0, 1) := by decide +kernel
theorem dX9_form_139 : decode cX9_form 139 = .ok (.aload_n 0, 1) := by decide +kernel
theorem dX9_form_140 : decode cX9_form 140 = .ok (.invokevirtual 282, 3) := by decide +kernel
theorem dX9_form_143 : decode cX9_form 143 = .ok (.putfield 303, 3) := by decide +kernel
theorem dX9_form_146 : decode cX9_form 146 = .ok (.aload_n 0, 1) := by decide +kernel
theorem dX9_form_147 : decode cX9_form 147 = .ok (.getfield 271, 3) := by decide +kernel
theorem dX9_form_150 : decode cX9_form 150 = .ok (.ifCond .ne 37, 3) := by decide +kernel
theorem dX9_form_153 : decode cX9_form 153 = .ok (.aload_n 0, 1) := by decide +kernel
theorem dX9_form_154 : decode cX9_form 154 = .ok (.invokevirtual 264, 3) := by decide +kernel
theorem dX9_form_157 : decode cX9_form 157 = .ok (.bipush 59, 2) := by decide +kernel
theorem dX9_form_159 : decode cX9_form 159 = .ok (.if_icmp .ne 28, 3) := by decide +kernel
theorem dX9_form_162 : decode cX9_form 162 = .ok (.aload_n 0, 1) := by decide +kernel
theorem dX9_form_163 : decode cX9_form 163 = .ok (.getfield 285, 3) := by decide +kernel
theorem dX9_form_166 : decode cX9_form 166 = .ok (.iconst 3, 1) := by decide +kernel
theorem dX9_form_167 : decode cX9_form 167 = .ok (.if_icmp .ge 20, 3) := by decide +kernel
theorem dX9_form_170 : decode cX9_form 170 = .ok (.aload_n 0, 1) := by decide +kernel
theorem dX9_form_171 : decode cX9_form 171 = .ok (.dup, 1) := by decide +kernel
theorem dX9_form_172 : decode cX9_form 172 = .ok (.getfield 261, 3) := by decide +kernel
theorem dX9_form_175 : decode cX9_form 175 = .ok (.iconst 1, 1) := by decide +kernel
theorem dX9_form_176 : decode cX9_form 176 = .ok (.iadd, 1) := by decide +kernel
theorem dX9_form_177 : decode cX9_form 177 = .ok (.putfield 261, 3) := by decide +kernel
theorem dX9_form_180 : decode cX9_form 180 = .ok (.aload_n 0, 1) := by decide +kernel
theorem dX9_form_181 : decode cX9_form 181 = .ok (.invokevirtual 306, 3) := by decide +kernel
theorem dX9_form_184 : decode cX9_form 184 = .ok (.goto (-38), 3) := by decide +kernel
theorem dX9_form_187 : decode cX9_form 187 = .ok (.aload_n 0, 1) := by decide +kernel
theorem dX9_form_188 : decode cX9_form 188 = .ok (.aload_n 0, 1) := by decide +kernel
theorem dX9_form_189 : decode cX9_form 189 = .ok (.getfield 271, 3) := by decide +kernel
theorem dX9_form_192 : decode cX9_form 192 = .ok (.ifCond .ne 14, 3) := by decide +kernel
theorem dX9_form_195 : decode cX9_form 195 = .ok (.aload_n 0, 1) := by decide +kernel
theorem dX9_form_196 : decode cX9_form 196 = .ok (.getfield 261, 3) := by decide +kernel
theorem dX9_form_199 : decode cX9_form 199 = .ok (.aload_n 0, 1) := by decide +kernel
theorem dX9_form_200 : decode cX9_form 200 = .ok (.getfield 258, 3) := by decide +kernel
theorem dX9_form_203 : decode cX9_form 203 = .ok (.if_icmp .ge 7, 3) := by decide +kernel
theorem dX9_form_206 : decode cX9_form 206 = .ok (.iconst 1, 1) := by decide +kernel
theorem dX9_form_207 : decode cX9_form 207 = .ok (.goto 4, 3) := by decide +kernel
theorem dX9_form_210 : decode cX9_form 210 = .ok (.iconst 0, 1) := by decide +kernel
theorem dX9_form_211 : decode cX9_form 211 = .ok (.putfield 271, 3) := by decide +kernel
theorem dX9_form_214 : decode cX9_form 214 = .ok (.return_, 1) := by decide +kernel
set_option maxRecDepth 20000 in
theorem ggX9_wrongFigures_X9_in : GoodIn wsX9_wrongFigures wsX9_in := goodIn_r _ [16] (by decide +kernel) (by decide +kernel)
set_option maxRecDepth 20000 in
theorem gX9_wrongFigures_X9_in : GoodIn wsX9_wrongFigures (va_wsS RX9 110 yX9_in wsX9_in) := goodIn_app (goodIn_of _ (by decide +kernel)) ggX9_wrongFigures_X9_in
set_option maxRecDepth 20000 in
theorem ggX9_wrongFigures_X9_isSplit : GoodIn wsX9_wrongFigures wsX9_isSplit := goodIn_r _ [19, 20, 13, 14, 15, 16, 21, 22, 23] (by decide +kernel) (by decide +kernel)
set_option maxRecDepth 20000 in
theorem gX9_wrongFigures_X9_isSplit : GoodIn wsX9_wrongFigures (va_wsS RX9 216 yX9_isSplit wsX9_isSplit) := goodIn_app (goodIn_of _ (by decide +kernel)) ggX9_wrongFigures_X9_isSplit
set_option maxRecDepth 20000 in
theorem ggX9_wrongFigures_X9_goTogether : GoodIn wsX9_wrongFigures wsX9_goTogether := goodIn_r _ [26] (by decide +kernel) (by decide +kernel)
set_option maxRecDepth 20000 in
theorem gX9_wrongFigures_X9_goTogether : GoodIn wsX9_wrongFigures (va_wsS RX9 210 yX9_goTogether wsX9_goTogether) := goodIn_app (goodIn_of _ (by decide +kernel)) ggX9_wrongFigures_X9_goTogether
theorem dX9_wrongFigures_0 : decode cX9_wrongFigures 0 = .ok (.aload_n 0, 1) := by decide +kernel
theorem dX9_wrongFigures_1 : decode cX9_wrongFigures 1 = .ok (.getfield 291, 3) := by decide +kernel
theorem dX9_wrongFigures_4 : decode cX9_wrongFigures 4 = .ok (.iconst 2, 1) := by decide +kernel
theorem dX9_wrongFigures_5 : decode cX9_wrongFigures 5 = .ok (.if_icmp .le 5, 3) := by decide +kernel
theorem dX9_wrongFigures_8 : decode cX9_wrongFigures 8 = .ok (.iconst 0, 1) := by decide +kernel
theorem dX9_wrongFigures_9 : decode cX9_wrongFigures 9 = .ok (.ireturn, 1) := by decide +kernel
theorem dX9_wrongFigures_10 : decode cX9_wrongFigures 10 = .ok (.iconst 0, 1) := by decide +kernel
theorem dX9_wrongFigures_11 : decode cX9_wrongFigures 11 = .ok (.istore_n 1, 1) := by decide +kernel
theorem dX9_wrongFigures_12 : decode cX9_wrongFigures 12 = .ok (.iload_n 1, 1) := by decide +kernel
theorem dX9_wrongFigures_13 : decode cX9_wrongFigures 13 = .ok (.aload_n 0, 1) := by decide +kernel
theorem dX9_wrongFigures_14 : decode cX9_wrongFigures 14 = .ok (.getfield 279, 3) := by decide +kernel
theorem dX9_wrongFigures_17 : decode cX9_wrongFigures 17 = .ok (.if_icmp .ge 27, 3) := by decide +kernel
theorem dX9_wrongFigures_20 : decode cX9_wrongFigures 20 = .ok (.aload_n 0, 1) := by decide +kernel
theorem dX9_wrongFigures_21 : decode cX9_wrongFigures 21 = .ok (.getfield 47, 3) := by decide +kernel
theorem dX9_wrongFigures_24 : decode cX9_wrongFigures 24 = .ok (.iload_n 1, 1) := by decide +kernel
theorem dX9_wrongFigures_25 : decode cX9_wrongFigures 25 = .ok (.iaload, 1) := by decide +kernel
theorem dX9_wrongFigures_26 : decode cX9_wrongFigures 26 = .ok (.bipush 12, 2) := by decide +kernel
theorem dX9_wrongFigures_28 : decode cX9_wrongFigures 28 = .ok (.if_icmp .le 10, 3) := by decide +kernel
theorem dX9_wrongFigures_31 : decode cX9_wrongFigures 31 = .ok (.aload_n 0, 1) := by decide +kernel
theorem dX9_wrongFigures_32 : decode cX9_wrongFigures 32 = .ok (.getfield 50, 3) := by decide +kernel
theorem dX9_wrongFigures_35 : decode cX9_wrongFigures 35 = .ok (.iload_n 1, 1) := by decide +kernel
theorem dX9_wrongFigures_36 : decode cX9_wrongFigures 36 = .ok (.iaload, 1) := by decide +kernel
theorem dX9_wrongFigures_37 : decode cX9_wrongFigures 37 = .ok (.ireturn, 1) := by decide +kernel
theorem dX9_wrongFigures_38 : decode cX9_wrongFigures 38 = .ok (.iinc 1 1, 3) := by decide +kernel
theorem dX9_wrongFigures_41 : decode cX9_wrongFigures 41 = .ok (.goto (-29), 3) := by decide +kernel
theorem dX9_wrongFigures_44 : decode cX9_wrongFigures 44 = .ok (.aload_n 0, 1) := by decide +kernel
theorem dX9_wrongFigures_45 : decode cX9_wrongFigures 45 = .ok (.getfield 288, 3) := by decide +kernel
theorem dX9_wrongFigures_48 : decode cX9_wrongFigures 48 = .ok (.ifCond .ne 6, 3) := by decide +kernel
theorem dX9_wrongFigures_51 : decode cX9_wrongFigures 51 = .ok (.bipush (-2), 2) := by decide +kernel
theorem dX9_wrongFigures_53 : decode cX9_wrongFigures 53 = .ok (.ireturn, 1) := by decide +kernel
theorem dX9_wrongFigures_54 : decode cX9_wrongFigures 54 = .ok (.aload_n 0, 1) := by decide +kernel
theorem dX9_wrongFigures_55 : decode cX9_wrongFigures 55 = .ok (.getfield 303, 3) := by decide +kernel
theorem dX9_wrongFigures_58 : decode cX9_wrongFigures 58 = .ok (.i2l, 1) := by decide +kernel
theorem dX9_wrongFigures_59 : decode cX9_wrongFigures 59 = .ok (.ldc2_w 128, 3) := by decide +kernel
theorem dX9_wrongFigures_62 : decode cX9_wrongFigures 62 = .ok (.ldc2_w 214, 3) := by decide +kernel
theorem dX9_wrongFigures_65 : decode cX9_wrongFigures 65 = .ok (.invokestatic 110, 3) := by decide +kernel
theorem dX9_wrongFigures_68 : decode cX9_wrongFigures 68 = .ok (.ifCond .ne 8, 3) := by decide +kernel
theorem dX9_wrongFigures_71 : decode cX9_wrongFigures 71 = .ok (.aload_n 0, 1) := by decide +kernel
theorem dX9_wrongFigures_72 : decode cX9_wrongFigures 72 = .ok (.getfield 300, 3) := by decide +kernel
theorem dX9_wrongFigures_75 : decode cX9_wrongFigures 75 = .ok (.ireturn, 1) := by decide +kernel
theorem dX9_wrongFigures_76 : decode cX9_wrongFigures 76 = .ok (.iconst 0, 1) := by decide +kernel
theorem dX9_wrongFigures_77 : decode cX9_wrongFigures 77 = .ok (.istore_n 1, 1) := by decide +kernel
theorem dX9_wrongFigures_78 : decode cX9_wrongFigures 78 = .ok (.iload_n 1, 1) := by decide +kernel
theorem dX9_wrongFigures_79 : decode cX9_wrongFigures 79 = .ok (.aload_n 0, 1) := by decide +kernel
theorem dX9_wrongFigures_80 : decode cX9_wrongFigures 80 = .ok (.getfield 285, 3) := by decide +kernel
theorem dX9_wrongFigures_83 : decode cX9_wrongFigures 83 = .ok (.if_icmp .ge 85, 3) := by decide +kernel
theorem dX9_wrongFigures_86 : decode cX9_wrongFigures 86 = .ok (.aload_n 0, 1) := by decide +kernel
theorem dX9_wrongFigures_87 : decode cX9_wrongFigures 87 = .ok (.getfield 53, 3) := by decide +kernel
theorem dX9_wrongFigures_90 : decode cX9_wrongFigures 90 = .ok (.iload_n 1, 1) := by decide +kernel
theorem dX9_wrongFigures_91 : decode cX9_wrongFigures 91 = .ok (.iaload, 1) := by decide +kernel
theorem dX9_wrongFigures_92 : decode cX9_wrongFigures 92 = .ok (.aload_n 0, 1) := by decide +kernel
theorem dX9_wrongFigures_93 : decode cX9_wrongFigures 93 = .ok (.getfield 303, 3) := by decide +kernel
theorem dX9_wrongFigures_96 : decode cX9_wrongFigures 96 = .ok (.invokestatic 216, 3) := by decide +kernel
theorem dX9_wrongFigures_99 : decode cX9_wrongFigures 99 = .ok (.ifCond .ne 10, 3) := by decide +kernel
theorem dX9_wrongFigures_102 : decode cX9_wrongFigures 102 = .ok (.aload_n 0, 1) := by decide +kernel
theorem dX9_wrongFigures_103 : decode cX9_wrongFigures 103 = .ok (.getfield 56, 3) := by decide +kernel
theorem dX9_wrongFigures_106 : decode cX9_wrongFigures 106 = .ok (.iload_n 1, 1) := by decide +kernel
theorem dX9_wrongFigures_107 : decode cX9_wrongFigures 107 = .ok (.iaload, 1) := by decide +kernel
theorem dX9_wrongFigures_108 : decode cX9_wrongFigures 108 = .ok (.ireturn, 1) := by decide +kernel
theorem dX9_wrongFigures_109 : decode cX9_wrongFigures 109 = .ok (.iconst 0, 1) := by decide +kernel
theorem dX9_wrongFigures_110 : decode cX9_wrongFigures 110 = .ok (.istore_n 2, 1) := by decide +kernel
theorem dX9_wrongFigures_111 : decode cX9_wrongFigures 111 = .ok (.iload_n 2, 1) := by decide +kernel
theorem dX9_wrongFigures_112 : decode cX9_wrongFigures 112 = .ok (.iload_n 1, 1) := by decide +kernel
theorem dX9_wrongFigures_113 : decode cX9_wrongFigures 113 = .ok (.if_icmp .ge 49, 3) := by decide +kernel
theorem dX9_wrongFigures_116 : decode cX9_wrongFigures 116 = .ok (.aload_n 0, 1) := by decide +kernel
theorem dX9_wrongFigures_117 : decode cX9_wrongFigures 117 = .ok (.getfield 53, 3) := by decide +kernel
theorem dX9_wrongFigures_120 : decode cX9_wrongFigures 120 = .ok (.iload_n 2, 1) := by decide +kernel
theorem dX9_wrongFigures_121 : decode cX9_wrongFigures 121 = .ok (.iaload, 1) := by decide +kernel
theorem dX9_wrongFigures_122 : decode cX9_wrongFigures 122 = .ok (.aload_n 0, 1) := by decide +kernel
theorem dX9_wrongFigures_123 : decode cX9_wrongFigures 123 = .ok (.getfield 53, 3) := by decide +kernel
theorem dX9_wrongFigures_126 : decode cX9_wrongFigures 126 = .ok (.iload_n 1, 1) := by decide +kernel
theorem dX9_wrongFigures_127 : decode cX9_wrongFigures 127 = .ok (.iaload, 1) := by decide +kernel
theorem dX9_wrongFigures_128 : decode cX9_wrongFigures 128 = .ok (.if_icmp .eq 21, 3) := by decide +kernel
theorem dX9_wrongFigures_131 : decode cX9_wrongFigures 131 = .ok (.aload_n 0, 1) := by decide +kernel
theorem dX9_wrongFigures_132 : decode cX9_wrongFigures 132 = .ok (.getfield 53, 3) := by decide +kernel
theorem dX9_wrongFigures_135 : decode cX9_wrongFigures 135 = .ok (.iload_n 2, 1) := by decide +kernel
theorem dX9_wrongFigures_136 : decode cX9_wrongFigures 136 = .ok (.iaload, 1) := by decide +kernel
theorem dX9_wrongFigures_137 : decode cX9_wrongFigures 137 = .ok (.aload_n 0, 1) := by decide +kernel
theorem dX9_wrongFigures_138 : decode cX9_wrongFigures 138 = .ok (.getfield 53, 3) := by decide +kernel
theorem dX9_wrongFigures_141 : decode cX9_wrongFigures 141 = .ok (.iload_n 1, 1) := by decide +kernel
theorem dX9_wrongFigures_142 : decode cX9_wrongFigures 142 = .ok (.iaload, 1) := by decide +kernel
theorem dX9_wrongFigures_143 : decode cX9_wrongFigures 143 = .ok (.invokestatic 210, 3) := by decide +kernel
theorem dX9_wrongFigures_146 : decode cX9_wrongFigures 146 = .ok (.ifCond .ne 10, 3) := by decide +kernel
theorem dX9_wrongFigures_149 : decode cX9_wrongFigures 149 = .ok (.aload_n 0, 1) := by decide +kernel
theorem dX9_wrongFigures_150 : decode cX9_wrongFigures 150 = .ok (.getfield 56, 3) := by decide +kernel
theorem dX9_wrongFigures_153 : decode cX9_wrongFigures 153 = .ok (.iload_n 1, 1) := by decide +kernel
theorem dX9_wrongFigures_154 : decode cX9_wrongFigures 154 = .ok (.iaload, 1) := by decide +kernel
theorem dX9_wrongFigures_155 : decode cX9_wrongFigures 155 = .ok (.ireturn, 1) := by decide +kernel
theorem dX9_wrongFigures_156 : decode cX9_wrongFigures 156 = .ok (.iinc 2 1, 3) := by decide +kernel
theorem dX9_wrongFigures_159 : decode cX9_wrongFigures 159 = .ok (.goto (-48), 3) := by decide +kernel
theorem dX9_wrongFigures_162 : decode cX9_wrongFigures 162 = .ok (.iinc 1 1, 3) := by decide +kernel
theorem dX9_wrongFigures_165 : decode cX9_wrongFigures 165 = .ok (.goto (-87), 3) := by decide +kernel
theorem dX9_wrongFigures_168 : decode cX9_wrongFigures 168 = .ok (.bipush (-2), 2) := by decide +kernel
theorem dX9_wrongFigures_170 : decode cX9_wrongFigures 170 = .ok (.ireturn, 1) := by decide +kernel
theorem dX9_because_0 : decode cX9_because 0 = .ok (.iconst 0, 1) := by decide +kernel
theorem dX9_because_1 : decode cX9_because 1 = .ok (.istore_n 3, 1) := by decide +kernel
theorem dX9_because_2 : decode cX9_because 2 = .ok (.iload_n 3, 1) := by decide +kernel
theorem dX9_because_3 : decode cX9_because 3 = .ok (.aload_n 0, 1) := by decide +kernel
theorem dX9_because_4 : decode cX9_because 4 = .ok (.getfield 258, 3) := by decide +kernel
theorem dX9_because_7 : decode cX9_because 7 = .ok (.if_icmp .ge 20, 3) := by decide +kernel
theorem dX9_because_10 : decode cX9_because 10 = .ok (.aload_n 0, 1) := by decide +kernel
theorem dX9_because_11 : decode cX9_because 11 = .ok (.getfield 44, 3) := by decide +kernel
theorem dX9_because_14 : decode cX9_because 14 = .ok (.iload_n 3, 1) := by decide +kernel
theorem dX9_because_15 : decode cX9_because 15 = .ok (.iaload, 1) := by decide +kernel
theorem dX9_because_16 : decode cX9_because 16 = .ok (.bipush 47, 2) := by decide +kernel
theorem dX9_because_18 : decode cX9_because 18 = .ok (.if_icmp .eq 9, 3) := by decide +kernel
theorem dX9_because_21 : decode cX9_because 21 = .ok (.iinc 3 1, 3) := by decide +kernel
theorem dX9_because_24 : decode cX9_because 24 = .ok (.goto (-22), 3) := by decide +kernel
theorem dX9_because_27 : decode cX9_because 27 = .ok (.iload_n 2, 1) := by decide +kernel
theorem dX9_because_28 : decode cX9_because 28 = .ok (.ifCond .ne 7, 3) := by decide +kernel
theorem dX9_because_31 : decode cX9_because 31 = .ok (.iconst 2, 1) := by decide +kernel
theorem dX9_because_32 : decode cX9_because 32 = .ok (.goto 24, 3) := by decide +kernel
theorem dX9_because_35 : decode cX9_because 35 = .ok (.iload_n 2, 1) := by decide +kernel
theorem dX9_because_36 : decode cX9_because 36 = .ok (.iload_n 3, 1) := by decide +kernel
theorem dX9_because_37 : decode cX9_because 37 = .ok (.if_icmp .gt 7, 3) := by decide +kernel
theorem dX9_because_40 : decode cX9_because 40 = .ok (.iconst 3, 1) := by decide +kernel
theorem dX9_because_41 : decode cX9_because 41 = .ok (.goto 15, 3) := by decide +kernel
theorem dX9_because_44 : decode cX9_because 44 = .ok (.iload_n 2, 1) := by decide +kernel
theorem dX9_because_45 : decode cX9_because 45 = .ok (.iload_n 3, 1) := by decide +kernel
theorem dX9_because_46 : decode cX9_because 46 = .ok (.iconst 1, 1) := by decide +kernel
theorem dX9_because_47 : decode cX9_because 47 = .ok (.iadd, 1) := by decide +kernel
theorem dX9_because_48 : decode cX9_because 48 = .ok (.if_icmp .ne 7, 3) := by decide +kernel
theorem dX9_because_51 : decode cX9_because 51 = .ok (.iconst 4, 1) := by decide +kernel
theorem dX9_because_52 : decode cX9_because 52 = .ok (.goto 4, 3) := by decide +kernel
theorem dX9_because_55 : decode cX9_because 55 = .ok (.iconst 5, 1) := by decide +kernel
theorem dX9_because_56 : decode cX9_because 56 = .ok (.istore 4, 2) := by decide +kernel
theorem dX9_because_58 : decode cX9_because 58 = .ok (.iconst 0, 1) := by decide +kernel
theorem dX9_because_59 : decode cX9_because 59 = .ok (.istore 5, 2) := by decide +kernel
theorem dX9_because_61 : decode cX9_because 61 = .ok (.iconst 0, 1) := by decide +kernel
theorem dX9_because_62 : decode cX9_because 62 = .ok (.istore 6, 2) := by decide +kernel
theorem dX9_because_64 : decode cX9_because 64 = .ok (.iload 6, 2) := by decide +kernel
theorem dX9_because_66 : decode cX9_because 66 = .ok (.iload_n 2, 1) := by decide +kernel
theorem dX9_because_67 : decode cX9_because 67 = .ok (.if_icmp .ge 55, 3) := by decide +kernel
theorem dX9_because_70 : decode cX9_because 70 = .ok (.iload 5, 2) := by decide +kernel
theorem dX9_because_72 : decode cX9_because 72 = .ok (.iload 4, 2) := by decide +kernel
theorem dX9_because_74 : decode cX9_because 74 = .ok (.iconst 3, 1) := by decide +kernel
theorem dX9_because_75 : decode cX9_because 75 = .ok (.if_icmp .ne 15, 3) := by decide +kernel
theorem dX9_because_78 : decode cX9_because 78 = .ok (.aload_n 0, 1) := by decide +kernel
theorem dX9_because_79 : decode cX9_because 79 = .ok (.getfield 44, 3) := by decide +kernel
theorem dX9_because_82 : decode cX9_because 82 = .ok (.iload 6, 2) := by decide +kernel
theorem dX9_because_84 : decode cX9_because 84 = .ok (.iaload, 1) := by decide +kernel
theorem dX9_because_85 : decode cX9_because 85 = .ok (.bipush 44, 2) := by decide +kernel
theorem dX9_because_87 : decode cX9_because 87 = .ok (.if_icmp .eq 21, 3) := by decide +kernel
theorem dX9_because_90 : decode cX9_because 90 = .ok (.iload 4, 2) := by decide +kernel
theorem dX9_because_92 : decode cX9_because 92 = .ok (.iconst 5, 1) := by decide +kernel
theorem dX9_because_93 : decode cX9_because 93 = .ok (.if_icmp .ne 19, 3) := by decide +kernel
theorem dX9_because_96 : decode cX9_because 96 = .ok (.aload_n 0, 1) := by decide +kernel
theorem dX9_because_97 : decode cX9_because 97 = .ok (.getfield 44, 3) := by decide +kernel
theorem dX9_because_100 : decode cX9_because 100 = .ok (.iload 6, 2) := by decide +kernel
theorem dX9_because_102 : decode cX9_because 102 = .ok (.iaload, 1) := by decide +kernel
theorem dX9_because_103 : decode cX9_because 103 = .ok (.bipush 59, 2) := by decide +kernel
theorem dX9_because_105 : decode cX9_because 105 = .ok (.if_icmp .ne 7, 3) := by decide +kernel
theorem dX9_because_108 : decode cX9_because 108 = .ok (.iconst 1, 1) := by decide +kernel
theorem dX9_because_109 : decode cX9_because 109 = .ok (.goto 4, 3) := by decide +kernel
theorem dX9_because_112 : decode cX9_because 112 = .ok (.iconst 0, 1) := by decide +kernel
theorem dX9_because_113 : decode cX9_because 113 = .ok (.iadd, 1) := by decide +kernel
theorem dX9_because_114 : decode cX9_because 114 = .ok (.istore 5, 2) := by decide +kernel
theorem dX9_because_116 : decode cX9_because 116 = .ok (.iinc 6 1, 3) := by decide +kernel
theorem dX9_because_119 : decode cX9_because 119 = .ok (.goto (-55), 3) := by decide +kernel
theorem dX9_because_122 : decode cX9_because 122 = .ok (.aload_n 0, 1) := by decide +kernel
theorem dX9_because_123 : decode cX9_because 123 = .ok (.getfield 59, 3) := by decide +kernel
theorem dX9_because_126 : decode cX9_because 126 = .ok (.iconst 0, 1) := by decide +kernel
theorem dX9_because_127 : decode cX9_because 127 = .ok (.iconst 1, 1) := by decide +kernel
theorem dX9_because_128 : decode cX9_because 128 = .ok (.iastore, 1) := by decide +kernel
theorem dX9_because_129 : decode cX9_because 129 = .ok (.aload_n 0, 1) := by decide +kernel
theorem dX9_because_130 : decode cX9_because 130 = .ok (.getfield 59, 3) := by decide +kernel
theorem dX9_because_133 : decode cX9_because 133 = .ok (.iconst 1, 1) := by decide +kernel
theorem dX9_because_134 : decode cX9_because 134 = .ok (.aload_n 0, 1) := by decide +kernel
theorem dX9_because_135 : decode cX9_because 135 = .ok (.getfield 258, 3) := by decide +kernel
theorem dX9_because_138 : decode cX9_because 138 = .ok (.iastore, 1) := by decide +kernel
theorem dX9_because_139 : decode cX9_because 139 = .ok (.aload_n 0, 1) := by decide +kernel
theorem dX9_because_140 : decode cX9_because 140 = .ok (.getfield 59, 3) := by decide +kernel
theorem dX9_because_143 : decode cX9_because 143 = .ok (.iconst 2, 1) := by decide +kernel
theorem dX9_because_144 : decode cX9_because 144 = .ok (.iload 4, 2) := by decide +kernel
theorem dX9_because_146 : decode cX9_because 146 = .ok (.iastore, 1) := by decide +kernel
theorem dX9_because_147 : decode cX9_because 147 = .ok (.aload_n 0, 1) := by decide +kernel
theorem dX9_because_148 : decode cX9_because 148 = .ok (.getfield 59, 3) := by decide +kernel
theorem dX9_because_151 : decode cX9_because 151 = .ok (.iconst 3, 1) := by decide +kernel
theorem dX9_because_152 : decode cX9_because 152 = .ok (.iload 5, 2) := by decide +kernel
theorem dX9_because_154 : decode cX9_because 154 = .ok (.iastore, 1) := by decide +kernel
theorem dX9_because_155 : decode cX9_because 155 = .ok (.aload_n 0, 1) := by decide +kernel
theorem dX9_because_156 : decode cX9_because 156 = .ok (.getfield 59, 3) := by decide +kernel
theorem dX9_because_159 : decode cX9_because 159 = .ok (.iconst 4, 1) := by decide +kernel
theorem dX9_because_160 : decode cX9_because 160 = .ok (.iload_n 1, 1) := by decide +kernel
theorem dX9_because_161 : decode cX9_because 161 = .ok (.iastore, 1) := by decide +kernel
theorem dX9_because_162 : decode cX9_because 162 = .ok (.aload_n 0, 1) := by decide +kernel
theorem dX9_because_163 : decode cX9_because 163 = .ok (.getfield 59, 3) := by decide +kernel
theorem dX9_because_166 : decode cX9_because 166 = .ok (.iconst 5, 1) := by decide +kernel
theorem dX9_because_167 : decode cX9_because 167 = .ok (.iload_n 2, 1) := by decide +kernel
theorem dX9_because_168 : decode cX9_because 168 = .ok (.iastore, 1) := by decide +kernel
theorem dX9_because_169 : decode cX9_because 169 = .ok (.aload_n 0, 1) := by decide +kernel
theorem dX9_because_170 : decode cX9_because 170 = .ok (.iconst 1, 1) := by decide +kernel
theorem dX9_because_171 : decode cX9_because 171 = .ok (.putfield 309, 3) := by decide +kernel
theorem dX9_because_174 : decode cX9_because 174 = .ok (.return_, 1) := by decide +kernel
set_option maxRecDepth 20000 in
theorem ggX9_read_X9_form : GoodIn wsX9_read wsX9_form := goodIn_r _ [20, 2, 1, 6, 14, 10, 4, 21, 11, 3, 22, 23, 24, 19, 25, 26, 27, 28, 29, 30, 31, 32, 33, 34, 35, 36, 37, 38, 39, 40, 41, 42, 43, 44, 45, 46, 47, 48, 9, 49, 50, 51, 52, 53, 15, 101, 102, 103, 104, 105, 106, 107, 108, 109, 110, 111, 112, 113, 114, 115, 116, 117, 118, 119, 120, 121, 122, 123, 124, 125, 126, 127, 128, 129, 130, 131, 132, 133, 134, 135, 136, 137, 138, 139, 140, 141, 142] (by decide +kernel) (by decide +kernel)
set_option maxRecDepth 20000 in
theorem gX9_read_X9_form : GoodIn wsX9_read (wsV RX9 312 RX9 yX9_form wsX9_form) := goodIn_app (goodIn_of _ (by decide +kernel)) ggX9_read_X9_form
set_option maxRecDepth 20000 in
theorem ggX9_read_X9_because : GoodIn wsX9_read wsX9_because := goodIn_r _ [57, 3, 26, 58, 59, 101, 102, 103, 104, 105, 106, 107, 108, 109, 110, 111, 112, 113, 114, 115, 116, 117, 118, 119, 120, 121, 122, 123, 124, 125, 126, 127, 128, 129, 130, 131, 132, 133, 134, 135, 136, 137, 138, 139, 140, 141, 142] (by decide +kernel) (by decide +kernel)
set_option maxRecDepth 20000 in
theorem gX9_read_X9_because : GoodIn wsX9_read (wsV RX9 315 RX9 yX9_because wsX9_because) := goodIn_app (goodIn_of _ (by decide +kernel)) ggX9_read_X9_because
set_option maxRecDepth 20000 in
theorem ggX9_read_X9_wrongFigures : GoodIn wsX9_read wsX9_wrongFigures := goodIn_r _ [63, 4, 6, 9, 48, 10, 11, 64, 65, 21, 14, 15, 53, 37, 38, 19, 39, 66, 67, 68, 69, 70, 71, 72, 73, 74, 75, 101, 102, 103, 104, 105, 106, 107, 108, 109, 110, 111, 112, 113, 114, 115, 116, 117, 118, 119, 120, 121, 122, 123, 124, 125, 126, 127, 128, 129, 130, 131, 132, 133, 134, 135, 136, 137, 138, 139, 140, 141, 142] (by decide +kernel) (by decide +kernel)
set_option maxRecDepth 20000 in
theorem gX9_read_X9_wrongFigures : GoodIn wsX9_read (wsV RX9 318 RX9 yX9_wrongFigures wsX9_wrongFigures) := goodIn_app (goodIn_of _ (by decide +kernel)) ggX9_read_X9_wrongFigures
set_option maxRecDepth 20000 in
theorem ggX9_read_X9_begins : GoodIn wsX9_read wsX9_begins := goodIn_r _ [79, 80, 81, 82, 83, 19, 84, 5, 7, 12, 13, 8, 85, 101, 102, 103, 104, 105, 106, 107, 108, 109, 110, 111, 112, 113, 114, 115, 116, 117, 118, 119, 120, 121, 122, 123, 124, 125, 126, 127, 128, 129, 130, 131, 132, 133, 134, 135, 136, 137, 138, 139, 140, 141, 142] (by decide +kernel) (by decide +kernel)
set_option maxRecDepth 20000 in
theorem gX9_read_X9_begins : GoodIn wsX9_read (wsV RX9 116 RX9 yX9_begins wsX9_begins) := goodIn_app (goodIn_of _ (by decide +kernel)) ggX9_read_X9_begins
set_option maxRecDepth 20000 in
theorem ggX9_read_X9_comes : GoodIn wsX9_read wsX9_comes := goodIn_r _ [89, 85, 13, 90, 91, 19, 92, 101, 102, 103, 104, 105, 106, 107, 108, 109, 110, 111, 112, 113, 114, 115, 116, 117, 118, 119, 120, 121, 122, 123, 124, 125, 126, 127, 128, 129, 130, 131, 132, 133, 134, 135, 136, 137, 138, 139, 140, 141, 142] (by decide +kernel) (by decide +kernel)
set_option maxRecDepth 20000 in
theorem gX9_read_X9_comes : GoodIn wsX9_read (wsV RX9 222 RX9 yX9_comes wsX9_comes) := goodIn_app (goodIn_of _ (by decide +kernel)) ggX9_read_X9_comes
set_option maxRecDepth 20000 in
theorem ggX9_read_X9_ends : GoodIn wsX9_read wsX9_ends := goodIn_r _ [96, 97, 80, 98, 99, 100, 81, 82, 83, 19, 84, 5, 7, 12, 13, 8, 85, 101, 102, 103, 104, 105, 106, 107, 108, 109, 110, 111, 112, 113, 114, 115, 116, 117, 118, 119, 120, 121, 122, 123, 124, 125, 126, 127, 128, 129, 130, 131, 132, 133, 134, 135, 136, 137, 138, 139, 140, 141, 142] (by decide +kernel) (by decide +kernel)
set_option maxRecDepth 20000 in
theorem gX9_read_X9_ends : GoodIn wsX9_read (wsV RX9 119 RX9 yX9_ends wsX9_ends) := goodIn_app (goodIn_of _ (by decide +kernel)) ggX9_read_X9_ends
theorem dX9_read_0 : decode cX9_read 0 = .ok (.aload_n 0, 1) := by decide +kernel
theorem dX9_read_1 : decode cX9_read 1 = .ok (.invokevirtual 312, 3) := by decide +kernel
theorem dX9_read_4 : decode cX9_read 4 = .ok (.aload_n 0, 1) := by decide +kernel
theorem dX9_read_5 : decode cX9_read 5 = .ok (.getfield 271, 3) := by decide +kernel
theorem dX9_read_8 : decode cX9_read 8 = .ok (.ifCond .eq 27, 3) := by decide +kernel
theorem dX9_read_11 : decode cX9_read 11 = .ok (.aload_n 0, 1) := by decide +kernel
theorem dX9_read_12 : decode cX9_read 12 = .ok (.bipush 6, 2) := by decide +kernel
theorem dX9_read_14 : decode cX9_read 14 = .ok (.aload_n 0, 1) := by decide +kernel
theorem dX9_read_15 : decode cX9_read 15 = .ok (.getfield 261, 3) := by decide +kernel
theorem dX9_read_18 : decode cX9_read 18 = .ok (.invokevirtual 315, 3) := by decide +kernel
theorem dX9_read_21 : decode cX9_read 21 = .ok (.aload_n 0, 1) := by decide +kernel
theorem dX9_read_22 : decode cX9_read 22 = .ok (.iconst 0, 1) := by decide +kernel
theorem dX9_read_23 : decode cX9_read 23 = .ok (.putfield 258, 3) := by decide +kernel
theorem dX9_read_26 : decode cX9_read 26 = .ok (.sipush (-1000), 3) := by decide +kernel
theorem dX9_read_29 : decode cX9_read 29 = .ok (.aload_n 0, 1) := by decide +kernel
theorem dX9_read_30 : decode cX9_read 30 = .ok (.getfield 261, 3) := by decide +kernel
theorem dX9_read_33 : decode cX9_read 33 = .ok (.isub, 1) := by decide +kernel
theorem dX9_read_34 : decode cX9_read 34 = .ok (.ireturn, 1) := by decide +kernel
theorem dX9_read_35 : decode cX9_read 35 = .ok (.aload_n 0, 1) := by decide +kernel
theorem dX9_read_36 : decode cX9_read 36 = .ok (.invokevirtual 318, 3) := by decide +kernel
theorem dX9_read_39 : decode cX9_read 39 = .ok (.istore_n 1, 1) := by decide +kernel
theorem dX9_read_40 : decode cX9_read 40 = .ok (.iload_n 1, 1) := by decide +kernel
theorem dX9_read_41 : decode cX9_read 41 = .ok (.ifCond .lt 21, 3) := by decide +kernel
theorem dX9_read_44 : decode cX9_read 44 = .ok (.aload_n 0, 1) := by decide +kernel
theorem dX9_read_45 : decode cX9_read 45 = .ok (.bipush 7, 2) := by decide +kernel
theorem dX9_read_47 : decode cX9_read 47 = .ok (.iload_n 1, 1) := by decide +kernel
theorem dX9_read_48 : decode cX9_read 48 = .ok (.invokevirtual 315, 3) := by decide +kernel
theorem dX9_read_51 : decode cX9_read 51 = .ok (.aload_n 0, 1) := by decide +kernel
theorem dX9_read_52 : decode cX9_read 52 = .ok (.iconst 0, 1) := by decide +kernel
theorem dX9_read_53 : decode cX9_read 53 = .ok (.putfield 258, 3) := by decide +kernel
theorem dX9_read_56 : decode cX9_read 56 = .ok (.sipush (-2000), 3) := by decide +kernel
theorem dX9_read_59 : decode cX9_read 59 = .ok (.iload_n 1, 1) := by decide +kernel
theorem dX9_read_60 : decode cX9_read 60 = .ok (.isub, 1) := by decide +kernel
theorem dX9_read_61 : decode cX9_read 61 = .ok (.ireturn, 1) := by decide +kernel
theorem dX9_read_62 : decode cX9_read 62 = .ok (.aload_n 0, 1) := by decide +kernel
theorem dX9_read_63 : decode cX9_read 63 = .ok (.iconst 0, 1) := by decide +kernel
theorem dX9_read_64 : decode cX9_read 64 = .ok (.putfield 258, 3) := by decide +kernel
theorem dX9_read_67 : decode cX9_read 67 = .ok (.aload_n 0, 1) := by decide +kernel
theorem dX9_read_68 : decode cX9_read 68 = .ok (.invokevirtual 116, 3) := by decide +kernel
theorem dX9_read_71 : decode cX9_read 71 = .ok (.aload_n 0, 1) := by decide +kernel
theorem dX9_read_72 : decode cX9_read 72 = .ok (.aload_n 0, 1) := by decide +kernel
theorem dX9_read_73 : decode cX9_read 73 = .ok (.getfield 291, 3) := by decide +kernel
theorem dX9_read_76 : decode cX9_read 76 = .ok (.putfield 88, 3) := by decide +kernel
theorem dX9_read_79 : decode cX9_read 79 = .ok (.aload_n 0, 1) := by decide +kernel
theorem dX9_read_80 : decode cX9_read 80 = .ok (.aload_n 0, 1) := by decide +kernel
theorem dX9_read_81 : decode cX9_read 81 = .ok (.getfield 279, 3) := by decide +kernel
theorem dX9_read_84 : decode cX9_read 84 = .ok (.putfield 91, 3) := by decide +kernel
theorem dX9_read_87 : decode cX9_read 87 = .ok (.iconst 0, 1) := by decide +kernel
theorem dX9_read_88 : decode cX9_read 88 = .ok (.istore_n 2, 1) := by decide +kernel
theorem dX9_read_89 : decode cX9_read 89 = .ok (.iload_n 2, 1) := by decide +kernel
theorem dX9_read_90 : decode cX9_read 90 = .ok (.aload_n 0, 1) := by decide +kernel
theorem dX9_read_91 : decode cX9_read 91 = .ok (.getfield 91, 3) := by decide +kernel
theorem dX9_read_94 : decode cX9_read 94 = .ok (.if_icmp .ge 21, 3) := by decide +kernel
theorem dX9_read_97 : decode cX9_read 97 = .ok (.aload_n 0, 1) := by decide +kernel
theorem dX9_read_98 : decode cX9_read 98 = .ok (.getfield 11, 3) := by decide +kernel
theorem dX9_read_101 : decode cX9_read 101 = .ok (.iload_n 2, 1) := by decide +kernel
theorem dX9_read_102 : decode cX9_read 102 = .ok (.aload_n 0, 1) := by decide +kernel
theorem dX9_read_103 : decode cX9_read 103 = .ok (.getfield 47, 3) := by decide +kernel
theorem dX9_read_106 : decode cX9_read 106 = .ok (.iload_n 2, 1) := by decide +kernel
theorem dX9_read_107 : decode cX9_read 107 = .ok (.iaload, 1) := by decide +kernel
theorem dX9_read_108 : decode cX9_read 108 = .ok (.iastore, 1) := by decide +kernel
theorem dX9_read_109 : decode cX9_read 109 = .ok (.iinc 2 1, 3) := by decide +kernel
theorem dX9_read_112 : decode cX9_read 112 = .ok (.goto (-23), 3) := by decide +kernel
theorem dX9_read_115 : decode cX9_read 115 = .ok (.aload_n 0, 1) := by decide +kernel
theorem dX9_read_116 : decode cX9_read 116 = .ok (.getfield 288, 3) := by decide +kernel
theorem dX9_read_119 : decode cX9_read 119 = .ok (.ifCond .eq 42, 3) := by decide +kernel
theorem dX9_read_122 : decode cX9_read 122 = .ok (.aload_n 0, 1) := by decide +kernel
theorem dX9_read_123 : decode cX9_read 123 = .ok (.aload_n 0, 1) := by decide +kernel
theorem dX9_read_124 : decode cX9_read 124 = .ok (.getfield 303, 3) := by decide +kernel
theorem dX9_read_127 : decode cX9_read 127 = .ok (.putfield 15, 3) := by decide +kernel
theorem dX9_read_130 : decode cX9_read 130 = .ok (.aload_n 0, 1) := by decide +kernel
theorem dX9_read_131 : decode cX9_read 131 = .ok (.iconst 0, 1) := by decide +kernel
theorem dX9_read_132 : decode cX9_read 132 = .ok (.putfield 94, 3) := by decide +kernel
theorem dX9_read_135 : decode cX9_read 135 = .ok (.iconst 0, 1) := by decide +kernel
theorem dX9_read_136 : decode cX9_read 136 = .ok (.istore_n 2, 1) := by decide +kernel
theorem dX9_read_137 : decode cX9_read 137 = .ok (.iload_n 2, 1) := by decide +kernel
theorem dX9_read_138 : decode cX9_read 138 = .ok (.aload_n 0, 1) := by decide +kernel
theorem dX9_read_139 : decode cX9_read 139 = .ok (.getfield 285, 3) := by decide +kernel
theorem dX9_read_142 : decode cX9_read 142 = .ok (.if_icmp .ge 19, 3) := by decide +kernel
theorem dX9_read_145 : decode cX9_read 145 = .ok (.aload_n 0, 1) := by decide +kernel
theorem dX9_read_146 : decode cX9_read 146 = .ok (.aload_n 0, 1) := by decide +kernel
theorem dX9_read_147 : decode cX9_read 147 = .ok (.getfield 53, 3) := by decide +kernel
theorem dX9_read_150 : decode cX9_read 150 = .ok (.iload_n 2, 1) := by decide +kernel
theorem dX9_read_151 : decode cX9_read 151 = .ok (.iaload, 1) := by decide +kernel
theorem dX9_read_152 : decode cX9_read 152 = .ok (.invokevirtual 222, 3) := by decide +kernel
theorem dX9_read_155 : decode cX9_read 155 = .ok (.iinc 2 1, 3) := by decide +kernel
theorem dX9_read_158 : decode cX9_read 158 = .ok (.goto (-21), 3) := by decide +kernel
theorem dX9_read_161 : decode cX9_read 161 = .ok (.aload_n 0, 1) := by decide +kernel
theorem dX9_read_162 : decode cX9_read 162 = .ok (.invokevirtual 119, 3) := by decide +kernel
theorem dX9_read_165 : decode cX9_read 165 = .ok (.aload_n 0, 1) := by decide +kernel
theorem dX9_read_166 : decode cX9_read 166 = .ok (.getfield 91, 3) := by decide +kernel
theorem dX9_read_169 : decode cX9_read 169 = .ok (.ireturn, 1) := by decide +kernel
set_option maxRecDepth 20000 in
theorem ggX9_why_X9_in : GoodIn wsX9_why wsX9_in := goodIn_r _ [7] (by decide +kernel) (by decide +kernel)
set_option maxRecDepth 20000 in
theorem gX9_why_X9_in : GoodIn wsX9_why (va_wsS RX9 110 yX9_in wsX9_in) := goodIn_app (goodIn_of _ (by decide +kernel)) ggX9_why_X9_in
theorem dX9_why_0 : decode cX9_why 0 = .ok (.iload_n 1, 1) := by decide +kernel
theorem dX9_why_1 : decode cX9_why 1 = .ok (.i2l, 1) := by decide +kernel
theorem dX9_why_2 : decode cX9_why 2 = .ok (.lconst 0, 1) := by decide +kernel
theorem dX9_why_3 : decode cX9_why 3 = .ok (.ldc2_w 114, 3) := by decide +kernel
theorem dX9_why_6 : decode cX9_why 6 = .ok (.invokestatic 110, 3) := by decide +kernel
theorem dX9_why_9 : decode cX9_why 9 = .ok (.ifCond .eq 13, 3) := by decide +kernel
theorem dX9_why_12 : decode cX9_why 12 = .ok (.iload_n 2, 1) := by decide +kernel
theorem dX9_why_13 : decode cX9_why 13 = .ok (.i2l, 1) := by decide +kernel
theorem dX9_why_14 : decode cX9_why 14 = .ok (.lconst 0, 1) := by decide +kernel
theorem dX9_why_15 : decode cX9_why 15 = .ok (.lconst 1, 1) := by decide +kernel
theorem dX9_why_16 : decode cX9_why 16 = .ok (.invokestatic 110, 3) := by decide +kernel
theorem dX9_why_19 : decode cX9_why 19 = .ok (.ifCond .ne 5, 3) := by decide +kernel
theorem dX9_why_22 : decode cX9_why 22 = .ok (.iconst (-1), 1) := by decide +kernel
theorem dX9_why_23 : decode cX9_why 23 = .ok (.ireturn, 1) := by decide +kernel
theorem dX9_why_24 : decode cX9_why 24 = .ok (.aload_n 0, 1) := by decide +kernel
theorem dX9_why_25 : decode cX9_why 25 = .ok (.getfield 309, 3) := by decide +kernel
theorem dX9_why_28 : decode cX9_why 28 = .ok (.ifCond .eq 16, 3) := by decide +kernel
theorem dX9_why_31 : decode cX9_why 31 = .ok (.aload_n 0, 1) := by decide +kernel
theorem dX9_why_32 : decode cX9_why 32 = .ok (.getfield 59, 3) := by decide +kernel
theorem dX9_why_35 : decode cX9_why 35 = .ok (.iconst 2, 1) := by decide +kernel
theorem dX9_why_36 : decode cX9_why 36 = .ok (.iload_n 1, 1) := by decide +kernel
theorem dX9_why_37 : decode cX9_why 37 = .ok (.imul, 1) := by decide +kernel
theorem dX9_why_38 : decode cX9_why 38 = .ok (.iload_n 2, 1) := by decide +kernel
theorem dX9_why_39 : decode cX9_why 39 = .ok (.iadd, 1) := by decide +kernel
theorem dX9_why_40 : decode cX9_why 40 = .ok (.iaload, 1) := by decide +kernel
theorem dX9_why_41 : decode cX9_why 41 = .ok (.goto 5, 3) := by decide +kernel
theorem dX9_why_44 : decode cX9_why 44 = .ok (.bipush (-2), 2) := by decide +kernel
theorem dX9_why_46 : decode cX9_why 46 = .ok (.ireturn, 1) := by decide +kernel
theorem dX9_writes_0 : decode cX9_writes 0 = .ok (.aload_n 0, 1) := by decide +kernel
theorem dX9_writes_1 : decode cX9_writes 1 = .ok (.getfield 62, 3) := by decide +kernel
theorem dX9_writes_4 : decode cX9_writes 4 = .ok (.aload_n 0, 1) := by decide +kernel
theorem dX9_writes_5 : decode cX9_writes 5 = .ok (.getfield 321, 3) := by decide +kernel
theorem dX9_writes_8 : decode cX9_writes 8 = .ok (.iload_n 1, 1) := by decide +kernel
theorem dX9_writes_9 : decode cX9_writes 9 = .ok (.iastore, 1) := by decide +kernel
theorem dX9_writes_10 : decode cX9_writes 10 = .ok (.aload_n 0, 1) := by decide +kernel
theorem dX9_writes_11 : decode cX9_writes 11 = .ok (.dup, 1) := by decide +kernel
theorem dX9_writes_12 : decode cX9_writes 12 = .ok (.getfield 321, 3) := by decide +kernel
theorem dX9_writes_15 : decode cX9_writes 15 = .ok (.iconst 1, 1) := by decide +kernel
theorem dX9_writes_16 : decode cX9_writes 16 = .ok (.iadd, 1) := by decide +kernel
theorem dX9_writes_17 : decode cX9_writes 17 = .ok (.putfield 321, 3) := by decide +kernel
theorem dX9_writes_20 : decode cX9_writes 20 = .ok (.return_, 1) := by decide +kernel
set_option maxRecDepth 20000 in
theorem ggX9_spells_X9_writes : GoodIn wsX9_spells wsX9_writes := goodIn_r _ [12, 13, 1, 14, 15, 16, 17, 18, 19, 20, 21, 22, 23, 24, 25, 26, 27, 28, 29, 30, 31, 32, 33, 34, 35, 36, 37, 38, 39, 40, 41, 42, 43, 44, 45, 46, 47, 48, 49, 50, 51, 52, 53, 54, 55] (by decide +kernel) (by decide +kernel)
set_option maxRecDepth 20000 in
theorem gX9_spells_X9_writes : GoodIn wsX9_spells (wsV RX9 324 RX9 yX9_writes wsX9_writes) := goodIn_app (goodIn_of _ (by decide +kernel)) ggX9_spells_X9_writes
theorem dX9_spells_0 : decode cX9_spells 0 = .ok (.aload_n 0, 1) := by decide +kernel
theorem dX9_spells_1 : decode cX9_spells 1 = .ok (.iconst 0, 1) := by decide +kernel
theorem dX9_spells_2 : decode cX9_spells 2 = .ok (.putfield 321, 3) := by decide +kernel
theorem dX9_spells_5 : decode cX9_spells 5 = .ok (.aload_n 0, 1) := by decide +kernel
theorem dX9_spells_6 : decode cX9_spells 6 = .ok (.bipush 48, 2) := by decide +kernel
theorem dX9_spells_8 : decode cX9_spells 8 = .ok (.aload_n 0, 1) := by decide +kernel
theorem dX9_spells_9 : decode cX9_spells 9 = .ok (.getfield 88, 3) := by decide +kernel
theorem dX9_spells_12 : decode cX9_spells 12 = .ok (.iadd, 1) := by decide +kernel
theorem dX9_spells_13 : decode cX9_spells 13 = .ok (.invokevirtual 324, 3) := by decide +kernel
theorem dX9_spells_16 : decode cX9_spells 16 = .ok (.aload_n 0, 1) := by decide +kernel
theorem dX9_spells_17 : decode cX9_spells 17 = .ok (.bipush 58, 2) := by decide +kernel
theorem dX9_spells_19 : decode cX9_spells 19 = .ok (.invokevirtual 324, 3) := by decide +kernel
theorem dX9_spells_22 : decode cX9_spells 22 = .ok (.iconst 0, 1) := by decide +kernel
theorem dX9_spells_23 : decode cX9_spells 23 = .ok (.istore_n 1, 1) := by decide +kernel
theorem dX9_spells_24 : decode cX9_spells 24 = .ok (.iload_n 1, 1) := by decide +kernel
theorem dX9_spells_25 : decode cX9_spells 25 = .ok (.aload_n 0, 1) := by decide +kernel
theorem dX9_spells_26 : decode cX9_spells 26 = .ok (.getfield 91, 3) := by decide +kernel
theorem dX9_spells_29 : decode cX9_spells 29 = .ok (.if_icmp .ge 52, 3) := by decide +kernel
theorem dX9_spells_32 : decode cX9_spells 32 = .ok (.iload_n 1, 1) := by decide +kernel
theorem dX9_spells_33 : decode cX9_spells 33 = .ok (.ifCond .le 9, 3) := by decide +kernel
theorem dX9_spells_36 : decode cX9_spells 36 = .ok (.aload_n 0, 1) := by decide +kernel
theorem dX9_spells_37 : decode cX9_spells 37 = .ok (.bipush 44, 2) := by decide +kernel
theorem dX9_spells_39 : decode cX9_spells 39 = .ok (.invokevirtual 324, 3) := by decide +kernel
theorem dX9_spells_42 : decode cX9_spells 42 = .ok (.aload_n 0, 1) := by decide +kernel
theorem dX9_spells_43 : decode cX9_spells 43 = .ok (.getfield 11, 3) := by decide +kernel
theorem dX9_spells_46 : decode cX9_spells 46 = .ok (.iload_n 1, 1) := by decide +kernel
theorem dX9_spells_47 : decode cX9_spells 47 = .ok (.iaload, 1) := by decide +kernel
theorem dX9_spells_48 : decode cX9_spells 48 = .ok (.bipush 9, 2) := by decide +kernel
theorem dX9_spells_50 : decode cX9_spells 50 = .ok (.if_icmp .le 9, 3) := by decide +kernel
theorem dX9_spells_53 : decode cX9_spells 53 = .ok (.aload_n 0, 1) := by decide +kernel
theorem dX9_spells_54 : decode cX9_spells 54 = .ok (.bipush 49, 2) := by decide +kernel
theorem dX9_spells_56 : decode cX9_spells 56 = .ok (.invokevirtual 324, 3) := by decide +kernel
theorem dX9_spells_59 : decode cX9_spells 59 = .ok (.aload_n 0, 1) := by decide +kernel
theorem dX9_spells_60 : decode cX9_spells 60 = .ok (.bipush 48, 2) := by decide +kernel
theorem dX9_spells_62 : decode cX9_spells 62 = .ok (.aload_n 0, 1) := by decide +kernel
theorem dX9_spells_63 : decode cX9_spells 63 = .ok (.getfield 11, 3) := by decide +kernel
theorem dX9_spells_66 : decode cX9_spells 66 = .ok (.iload_n 1, 1) := by decide +kernel
theorem dX9_spells_67 : decode cX9_spells 67 = .ok (.iaload, 1) := by decide +kernel
theorem dX9_spells_68 : decode cX9_spells 68 = .ok (.bipush 10, 2) := by decide +kernel
theorem dX9_spells_70 : decode cX9_spells 70 = .ok (.irem, 1) := by decide +kernel
theorem dX9_spells_71 : decode cX9_spells 71 = .ok (.iadd, 1) := by decide +kernel
theorem dX9_spells_72 : decode cX9_spells 72 = .ok (.invokevirtual 324, 3) := by decide +kernel
theorem dX9_spells_75 : decode cX9_spells 75 = .ok (.iinc 1 1, 3) := by decide +kernel
theorem dX9_spells_78 : decode cX9_spells 78 = .ok (.goto (-54), 3) := by decide +kernel
theorem dX9_spells_81 : decode cX9_spells 81 = .ok (.aload_n 0, 1) := by decide +kernel
theorem dX9_spells_82 : decode cX9_spells 82 = .ok (.bipush 47, 2) := by decide +kernel
theorem dX9_spells_84 : decode cX9_spells 84 = .ok (.invokevirtual 324, 3) := by decide +kernel
theorem dX9_spells_87 : decode cX9_spells 87 = .ok (.aload_n 0, 1) := by decide +kernel
theorem dX9_spells_88 : decode cX9_spells 88 = .ok (.bipush 48, 2) := by decide +kernel
theorem dX9_spells_90 : decode cX9_spells 90 = .ok (.aload_n 0, 1) := by decide +kernel
theorem dX9_spells_91 : decode cX9_spells 91 = .ok (.getfield 15, 3) := by decide +kernel
theorem dX9_spells_94 : decode cX9_spells 94 = .ok (.iadd, 1) := by decide +kernel
theorem dX9_spells_95 : decode cX9_spells 95 = .ok (.invokevirtual 324, 3) := by decide +kernel
theorem dX9_spells_98 : decode cX9_spells 98 = .ok (.iconst 0, 1) := by decide +kernel
theorem dX9_spells_99 : decode cX9_spells 99 = .ok (.istore_n 1, 1) := by decide +kernel
theorem dX9_spells_100 : decode cX9_spells 100 = .ok (.iload_n 1, 1) := by decide +kernel
theorem dX9_spells_101 : decode cX9_spells 101 = .ok (.aload_n 0, 1) := by decide +kernel
theorem dX9_spells_102 : decode cX9_spells 102 = .ok (.getfield 94, 3) := by decide +kernel
theorem dX9_spells_105 : decode cX9_spells 105 = .ok (.if_icmp .ge 53, 3) := by decide +kernel
theorem dX9_spells_108 : decode cX9_spells 108 = .ok (.aload_n 0, 1) := by decide +kernel
theorem dX9_spells_109 : decode cX9_spells 109 = .ok (.bipush 59, 2) := by decide +kernel
theorem dX9_spells_111 : decode cX9_spells 111 = .ok (.invokevirtual 324, 3) := by decide +kernel
theorem dX9_spells_114 : decode cX9_spells 114 = .ok (.iconst 0, 1) := by decide +kernel
theorem dX9_spells_115 : decode cX9_spells 115 = .ok (.istore_n 2, 1) := by decide +kernel
theorem dX9_spells_116 : decode cX9_spells 116 = .ok (.iload_n 2, 1) := by decide +kernel
theorem dX9_spells_117 : decode cX9_spells 117 = .ok (.aload_n 0, 1) := by decide +kernel
theorem dX9_spells_118 : decode cX9_spells 118 = .ok (.getfield 15, 3) := by decide +kernel
theorem dX9_spells_121 : decode cX9_spells 121 = .ok (.if_icmp .ge 31, 3) := by decide +kernel
theorem dX9_spells_124 : decode cX9_spells 124 = .ok (.aload_n 0, 1) := by decide +kernel
theorem dX9_spells_125 : decode cX9_spells 125 = .ok (.getfield 19, 3) := by decide +kernel
theorem dX9_spells_128 : decode cX9_spells 128 = .ok (.iload_n 1, 1) := by decide +kernel
theorem dX9_spells_129 : decode cX9_spells 129 = .ok (.iaload, 1) := by decide +kernel
theorem dX9_spells_130 : decode cX9_spells 130 = .ok (.iload_n 2, 1) := by decide +kernel
theorem dX9_spells_131 : decode cX9_spells 131 = .ok (.ishr, 1) := by decide +kernel
theorem dX9_spells_132 : decode cX9_spells 132 = .ok (.iconst 1, 1) := by decide +kernel
theorem dX9_spells_133 : decode cX9_spells 133 = .ok (.iand, 1) := by decide +kernel
theorem dX9_spells_134 : decode cX9_spells 134 = .ok (.iconst 1, 1) := by decide +kernel
theorem dX9_spells_135 : decode cX9_spells 135 = .ok (.if_icmp .ne 11, 3) := by decide +kernel
theorem dX9_spells_138 : decode cX9_spells 138 = .ok (.aload_n 0, 1) := by decide +kernel
theorem dX9_spells_139 : decode cX9_spells 139 = .ok (.bipush 48, 2) := by decide +kernel
theorem dX9_spells_141 : decode cX9_spells 141 = .ok (.iload_n 2, 1) := by decide +kernel
theorem dX9_spells_142 : decode cX9_spells 142 = .ok (.iadd, 1) := by decide +kernel
theorem dX9_spells_143 : decode cX9_spells 143 = .ok (.invokevirtual 324, 3) := by decide +kernel
theorem dX9_spells_146 : decode cX9_spells 146 = .ok (.iinc 2 1, 3) := by decide +kernel
theorem dX9_spells_149 : decode cX9_spells 149 = .ok (.goto (-33), 3) := by decide +kernel
theorem dX9_spells_152 : decode cX9_spells 152 = .ok (.iinc 1 1, 3) := by decide +kernel
theorem dX9_spells_155 : decode cX9_spells 155 = .ok (.goto (-55), 3) := by decide +kernel
theorem dX9_spells_158 : decode cX9_spells 158 = .ok (.return_, 1) := by decide +kernel
set_option maxRecDepth 20000 in
theorem ggX9_spell_X9_spells : GoodIn wsX9_spell wsX9_spells := goodIn_r _ [7, 1, 8, 9, 10, 11, 12, 13, 14, 15, 16, 6, 17, 2, 18, 19, 20, 21, 22, 23, 24, 25, 26, 27, 28, 29, 30, 31, 32, 33, 34, 35, 36, 37, 38, 39, 40, 41, 42, 43, 44, 45, 46, 47, 48, 49, 50, 51, 52, 53, 54, 55, 56, 57, 58, 59] (by decide +kernel) (by decide +kernel)
set_option maxRecDepth 20000 in
theorem gX9_spell_X9_spells : GoodIn wsX9_spell (wsV RX9 327 RX9 yX9_spells wsX9_spells) := goodIn_app (goodIn_of _ (by decide +kernel)) ggX9_spell_X9_spells
theorem dX9_spell_0 : decode cX9_spell 0 = .ok (.iload_n 1, 1) := by decide +kernel
theorem dX9_spell_1 : decode cX9_spell 1 = .ok (.iconst (-1), 1) := by decide +kernel
theorem dX9_spell_2 : decode cX9_spell 2 = .ok (.if_icmp .ge 5, 3) := by decide +kernel
theorem dX9_spell_5 : decode cX9_spell 5 = .ok (.iconst (-1), 1) := by decide +kernel
theorem dX9_spell_6 : decode cX9_spell 6 = .ok (.ireturn, 1) := by decide +kernel
theorem dX9_spell_7 : decode cX9_spell 7 = .ok (.aload_n 0, 1) := by decide +kernel
theorem dX9_spell_8 : decode cX9_spell 8 = .ok (.invokevirtual 327, 3) := by decide +kernel
theorem dX9_spell_11 : decode cX9_spell 11 = .ok (.iload_n 1, 1) := by decide +kernel
theorem dX9_spell_12 : decode cX9_spell 12 = .ok (.iconst (-1), 1) := by decide +kernel
theorem dX9_spell_13 : decode cX9_spell 13 = .ok (.if_icmp .ne 10, 3) := by decide +kernel
theorem dX9_spell_16 : decode cX9_spell 16 = .ok (.aload_n 0, 1) := by decide +kernel
theorem dX9_spell_17 : decode cX9_spell 17 = .ok (.getfield 321, 3) := by decide +kernel
theorem dX9_spell_20 : decode cX9_spell 20 = .ok (.goto 22, 3) := by decide +kernel
theorem dX9_spell_23 : decode cX9_spell 23 = .ok (.iload_n 1, 1) := by decide +kernel
theorem dX9_spell_24 : decode cX9_spell 24 = .ok (.aload_n 0, 1) := by decide +kernel
theorem dX9_spell_25 : decode cX9_spell 25 = .ok (.getfield 321, 3) := by decide +kernel
theorem dX9_spell_28 : decode cX9_spell 28 = .ok (.if_icmp .ge 12, 3) := by decide +kernel
theorem dX9_spell_31 : decode cX9_spell 31 = .ok (.aload_n 0, 1) := by decide +kernel
theorem dX9_spell_32 : decode cX9_spell 32 = .ok (.getfield 62, 3) := by decide +kernel
theorem dX9_spell_35 : decode cX9_spell 35 = .ok (.iload_n 1, 1) := by decide +kernel
theorem dX9_spell_36 : decode cX9_spell 36 = .ok (.iaload, 1) := by decide +kernel
theorem dX9_spell_37 : decode cX9_spell 37 = .ok (.goto 5, 3) := by decide +kernel
theorem dX9_spell_40 : decode cX9_spell 40 = .ok (.bipush (-2), 2) := by decide +kernel
theorem dX9_spell_42 : decode cX9_spell 42 = .ok (.ireturn, 1) := by decide +kernel
set_option maxRecDepth 20000 in
theorem ggX9_isHolder_X9_in : GoodIn wsX9_isHolder wsX9_in := goodIn_r _ [5] (by decide +kernel) (by decide +kernel)
set_option maxRecDepth 20000 in
theorem gX9_isHolder_X9_in : GoodIn wsX9_isHolder (va_wsS RX9 110 yX9_in wsX9_in) := goodIn_app (goodIn_of _ (by decide +kernel)) ggX9_isHolder_X9_in
theorem dX9_isHolder_0 : decode cX9_isHolder 0 = .ok (.iload_n 0, 1) := by decide +kernel
theorem dX9_isHolder_1 : decode cX9_isHolder 1 = .ok (.i2l, 1) := by decide +kernel
theorem dX9_isHolder_2 : decode cX9_isHolder 2 = .ok (.lconst 0, 1) := by decide +kernel
theorem dX9_isHolder_3 : decode cX9_isHolder 3 = .ok (.ldc2_w 144, 3) := by decide +kernel
theorem dX9_isHolder_6 : decode cX9_isHolder 6 = .ok (.invokestatic 110, 3) := by decide +kernel
theorem dX9_isHolder_9 : decode cX9_isHolder 9 = .ok (.ireturn, 1) := by decide +kernel
set_option maxRecDepth 20000 in
theorem ggX9_hold_X9_isHolder : GoodIn wsX9_hold wsX9_isHolder := goodIn_r _ [14, 15, 16, 17, 13, 18] (by decide +kernel) (by decide +kernel)
set_option maxRecDepth 20000 in
theorem gX9_hold_X9_isHolder : GoodIn wsX9_hold (va_wsS RX9 330 yX9_isHolder wsX9_isHolder) := goodIn_app (goodIn_of _ (by decide +kernel)) ggX9_hold_X9_isHolder
set_option maxRecDepth 20000 in
theorem ggX9_hold_X9_in : GoodIn wsX9_hold wsX9_in := goodIn_r _ [18] (by decide +kernel) (by decide +kernel)
set_option maxRecDepth 20000 in
theorem gX9_hold_X9_in : GoodIn wsX9_hold (va_wsS RX9 110 yX9_in wsX9_in) := goodIn_app (goodIn_of _ (by decide +kernel)) ggX9_hold_X9_in
set_option maxRecDepth 20000 in
theorem ggX9_hold_X9_number : GoodIn wsX9_hold wsX9_number := goodIn_r _ [22, 23, 24, 16, 17, 13, 18, 25, 26, 27, 28, 4, 29, 30, 31, 32, 33, 34, 35, 36, 37, 38, 39, 40, 41, 42, 43, 44, 45, 46, 15, 47, 48, 49, 50, 51, 52, 53, 54, 55, 56, 57, 58, 59, 60, 61, 62, 63, 64, 65, 66, 67, 68, 69, 70, 71, 72, 73, 74, 75, 76, 77, 78, 79, 80, 81, 82, 83, 84, 85, 86, 87, 88, 89, 90, 91, 92, 93, 94, 95, 96, 97, 98, 99, 100, 101, 102, 103, 104, 105, 106, 107] (by decide +kernel) (by decide +kernel)
set_option maxRecDepth 20000 in
theorem gX9_hold_X9_number : GoodIn wsX9_hold (wsV RX9 333 RX9 yX9_number wsX9_number) := goodIn_app (goodIn_of _ (by decide +kernel)) ggX9_hold_X9_number
theorem dX9_hold_0 : decode cX9_hold 0 = .ok (.iload_n 1, 1) := by decide +kernel
theorem dX9_hold_1 : decode cX9_hold 1 = .ok (.invokestatic 330, 3) := by decide +kernel
theorem dX9_hold_4 : decode cX9_hold 4 = .ok (.ifCond .eq 13, 3) := by decide +kernel
theorem dX9_hold_7 : decode cX9_hold 7 = .ok (.iload_n 2, 1) := by decide +kernel
theorem dX9_hold_8 : decode cX9_hold 8 = .ok (.i2l, 1) := by decide +kernel
theorem dX9_hold_9 : decode cX9_hold 9 = .ok (.lconst 0, 1) := by decide +kernel
theorem dX9_hold_10 : decode cX9_hold 10 = .ok (.lconst 1, 1) := by decide +kernel
theorem dX9_hold_11 : decode cX9_hold 11 = .ok (.invokestatic 110, 3) := by decide +kernel
theorem dX9_hold_14 : decode cX9_hold 14 = .ok (.ifCond .ne 5, 3) := by decide +kernel
theorem dX9_hold_17 : decode cX9_hold 17 = .ok (.iconst (-1), 1) := by decide +kernel
theorem dX9_hold_18 : decode cX9_hold 18 = .ok (.ireturn, 1) := by decide +kernel
theorem dX9_hold_19 : decode cX9_hold 19 = .ok (.aload_n 0, 1) := by decide +kernel
theorem dX9_hold_20 : decode cX9_hold 20 = .ok (.getfield 65, 3) := by decide +kernel
theorem dX9_hold_23 : decode cX9_hold 23 = .ok (.iload_n 1, 1) := by decide +kernel
theorem dX9_hold_24 : decode cX9_hold 24 = .ok (.iload_n 2, 1) := by decide +kernel
theorem dX9_hold_25 : decode cX9_hold 25 = .ok (.iconst 1, 1) := by decide +kernel
theorem dX9_hold_26 : decode cX9_hold 26 = .ok (.iadd, 1) := by decide +kernel
theorem dX9_hold_27 : decode cX9_hold 27 = .ok (.iastore, 1) := by decide +kernel
theorem dX9_hold_28 : decode cX9_hold 28 = .ok (.iload_n 2, 1) := by decide +kernel
theorem dX9_hold_29 : decode cX9_hold 29 = .ok (.ifCond .ne 59, 3) := by decide +kernel
theorem dX9_hold_32 : decode cX9_hold 32 = .ok (.aload_n 0, 1) := by decide +kernel
theorem dX9_hold_33 : decode cX9_hold 33 = .ok (.getfield 68, 3) := by decide +kernel
theorem dX9_hold_36 : decode cX9_hold 36 = .ok (.iload_n 1, 1) := by decide +kernel
theorem dX9_hold_37 : decode cX9_hold 37 = .ok (.aload_n 0, 1) := by decide +kernel
theorem dX9_hold_38 : decode cX9_hold 38 = .ok (.iconst 0, 1) := by decide +kernel
theorem dX9_hold_39 : decode cX9_hold 39 = .ok (.invokevirtual 333, 3) := by decide +kernel
theorem dX9_hold_42 : decode cX9_hold 42 = .ok (.ldc2_w 336, 3) := by decide +kernel
theorem dX9_hold_45 : decode cX9_hold 45 = .ok (.lrem, 1) := by decide +kernel
theorem dX9_hold_46 : decode cX9_hold 46 = .ok (.lastore, 1) := by decide +kernel
theorem dX9_hold_47 : decode cX9_hold 47 = .ok (.aload_n 0, 1) := by decide +kernel
theorem dX9_hold_48 : decode cX9_hold 48 = .ok (.getfield 68, 3) := by decide +kernel
theorem dX9_hold_51 : decode cX9_hold 51 = .ok (.iload_n 1, 1) := by decide +kernel
theorem dX9_hold_52 : decode cX9_hold 52 = .ok (.aload_n 0, 1) := by decide +kernel
theorem dX9_hold_53 : decode cX9_hold 53 = .ok (.getfield 68, 3) := by decide +kernel
theorem dX9_hold_56 : decode cX9_hold 56 = .ok (.iload_n 1, 1) := by decide +kernel
theorem dX9_hold_57 : decode cX9_hold 57 = .ok (.laload, 1) := by decide +kernel
theorem dX9_hold_58 : decode cX9_hold 58 = .ok (.lconst 0, 1) := by decide +kernel
theorem dX9_hold_59 : decode cX9_hold 59 = .ok (.lcmp, 1) := by decide +kernel
theorem dX9_hold_60 : decode cX9_hold 60 = .ok (.ifCond .ge 16, 3) := by decide +kernel
theorem dX9_hold_63 : decode cX9_hold 63 = .ok (.aload_n 0, 1) := by decide +kernel
theorem dX9_hold_64 : decode cX9_hold 64 = .ok (.getfield 68, 3) := by decide +kernel
theorem dX9_hold_67 : decode cX9_hold 67 = .ok (.iload_n 1, 1) := by decide +kernel
theorem dX9_hold_68 : decode cX9_hold 68 = .ok (.laload, 1) := by decide +kernel
theorem dX9_hold_69 : decode cX9_hold 69 = .ok (.ldc2_w 336, 3) := by decide +kernel
theorem dX9_hold_72 : decode cX9_hold 72 = .ok (.ladd, 1) := by decide +kernel
theorem dX9_hold_73 : decode cX9_hold 73 = .ok (.goto 9, 3) := by decide +kernel
theorem dX9_hold_76 : decode cX9_hold 76 = .ok (.aload_n 0, 1) := by decide +kernel
theorem dX9_hold_77 : decode cX9_hold 77 = .ok (.getfield 68, 3) := by decide +kernel
theorem dX9_hold_80 : decode cX9_hold 80 = .ok (.iload_n 1, 1) := by decide +kernel
theorem dX9_hold_81 : decode cX9_hold 81 = .ok (.laload, 1) := by decide +kernel
theorem dX9_hold_82 : decode cX9_hold 82 = .ok (.lastore, 1) := by decide +kernel
theorem dX9_hold_83 : decode cX9_hold 83 = .ok (.aload_n 0, 1) := by decide +kernel
theorem dX9_hold_84 : decode cX9_hold 84 = .ok (.getfield 91, 3) := by decide +kernel
theorem dX9_hold_87 : decode cX9_hold 87 = .ok (.ireturn, 1) := by decide +kernel
theorem dX9_hold_88 : decode cX9_hold 88 = .ok (.aload_n 0, 1) := by decide +kernel
theorem dX9_hold_89 : decode cX9_hold 89 = .ok (.getfield 75, 3) := by decide +kernel
theorem dX9_hold_92 : decode cX9_hold 92 = .ok (.iload_n 1, 1) := by decide +kernel
theorem dX9_hold_93 : decode cX9_hold 93 = .ok (.aload_n 0, 1) := by decide +kernel
theorem dX9_hold_94 : decode cX9_hold 94 = .ok (.getfield 15, 3) := by decide +kernel
theorem dX9_hold_97 : decode cX9_hold 97 = .ok (.iastore, 1) := by decide +kernel
theorem dX9_hold_98 : decode cX9_hold 98 = .ok (.aload_n 0, 1) := by decide +kernel
theorem dX9_hold_99 : decode cX9_hold 99 = .ok (.getfield 72, 3) := by decide +kernel
theorem dX9_hold_102 : decode cX9_hold 102 = .ok (.iload_n 1, 1) := by decide +kernel
theorem dX9_hold_103 : decode cX9_hold 103 = .ok (.aload_n 0, 1) := by decide +kernel
theorem dX9_hold_104 : decode cX9_hold 104 = .ok (.getfield 94, 3) := by decide +kernel
theorem dX9_hold_107 : decode cX9_hold 107 = .ok (.iastore, 1) := by decide +kernel
theorem dX9_hold_108 : decode cX9_hold 108 = .ok (.iconst 0, 1) := by decide +kernel
theorem dX9_hold_109 : decode cX9_hold 109 = .ok (.istore_n 3, 1) := by decide +kernel
theorem dX9_hold_110 : decode cX9_hold 110 = .ok (.iload_n 3, 1) := by decide +kernel
theorem dX9_hold_111 : decode cX9_hold 111 = .ok (.aload_n 0, 1) := by decide +kernel
theorem dX9_hold_112 : decode cX9_hold 112 = .ok (.getfield 94, 3) := by decide +kernel
theorem dX9_hold_115 : decode cX9_hold 115 = .ok (.if_icmp .ge 26, 3) := by decide +kernel
theorem dX9_hold_118 : decode cX9_hold 118 = .ok (.aload_n 0, 1) := by decide +kernel
theorem dX9_hold_119 : decode cX9_hold 119 = .ok (.getfield 78, 3) := by decide +kernel
theorem dX9_hold_122 : decode cX9_hold 122 = .ok (.bipush 20, 2) := by decide +kernel
theorem dX9_hold_124 : decode cX9_hold 124 = .ok (.iload_n 1, 1) := by decide +kernel
theorem dX9_hold_125 : decode cX9_hold 125 = .ok (.imul, 1) := by decide +kernel
theorem dX9_hold_126 : decode cX9_hold 126 = .ok (.iload_n 3, 1) := by decide +kernel
theorem dX9_hold_127 : decode cX9_hold 127 = .ok (.iadd, 1) := by decide +kernel
theorem dX9_hold_128 : decode cX9_hold 128 = .ok (.aload_n 0, 1) := by decide +kernel
theorem dX9_hold_129 : decode cX9_hold 129 = .ok (.getfield 19, 3) := by decide +kernel
theorem dX9_hold_132 : decode cX9_hold 132 = .ok (.iload_n 3, 1) := by decide +kernel
theorem dX9_hold_133 : decode cX9_hold 133 = .ok (.iaload, 1) := by decide +kernel
theorem dX9_hold_134 : decode cX9_hold 134 = .ok (.iastore, 1) := by decide +kernel
theorem dX9_hold_135 : decode cX9_hold 135 = .ok (.iinc 3 1, 3) := by decide +kernel
theorem dX9_hold_138 : decode cX9_hold 138 = .ok (.goto (-28), 3) := by decide +kernel
theorem dX9_hold_141 : decode cX9_hold 141 = .ok (.aload_n 0, 1) := by decide +kernel
theorem dX9_hold_142 : decode cX9_hold 142 = .ok (.getfield 94, 3) := by decide +kernel
theorem dX9_hold_145 : decode cX9_hold 145 = .ok (.ireturn, 1) := by decide +kernel
set_option maxRecDepth 20000 in
theorem ggX9_lose_X9_isHolder : GoodIn wsX9_lose wsX9_isHolder := goodIn_r _ [5, 6, 7, 8, 4, 9] (by decide +kernel) (by decide +kernel)
set_option maxRecDepth 20000 in
theorem gX9_lose_X9_isHolder : GoodIn wsX9_lose (va_wsS RX9 330 yX9_isHolder wsX9_isHolder) := goodIn_app (goodIn_of _ (by decide +kernel)) ggX9_lose_X9_isHolder
theorem dX9_lose_0 : decode cX9_lose 0 = .ok (.iload_n 1, 1) := by decide +kernel
theorem dX9_lose_1 : decode cX9_lose 1 = .ok (.invokestatic 330, 3) := by decide +kernel
theorem dX9_lose_4 : decode cX9_lose 4 = .ok (.ifCond .ne 5, 3) := by decide +kernel
theorem dX9_lose_7 : decode cX9_lose 7 = .ok (.iconst (-1), 1) := by decide +kernel
theorem dX9_lose_8 : decode cX9_lose 8 = .ok (.ireturn, 1) := by decide +kernel
theorem dX9_lose_9 : decode cX9_lose 9 = .ok (.aload_n 0, 1) := by decide +kernel
theorem dX9_lose_10 : decode cX9_lose 10 = .ok (.getfield 65, 3) := by decide +kernel
theorem dX9_lose_13 : decode cX9_lose 13 = .ok (.iload_n 1, 1) := by decide +kernel
theorem dX9_lose_14 : decode cX9_lose 14 = .ok (.iaload, 1) := by decide +kernel
theorem dX9_lose_15 : decode cX9_lose 15 = .ok (.istore_n 2, 1) := by decide +kernel
theorem dX9_lose_16 : decode cX9_lose 16 = .ok (.aload_n 0, 1) := by decide +kernel
theorem dX9_lose_17 : decode cX9_lose 17 = .ok (.getfield 65, 3) := by decide +kernel
theorem dX9_lose_20 : decode cX9_lose 20 = .ok (.iload_n 1, 1) := by decide +kernel
theorem dX9_lose_21 : decode cX9_lose 21 = .ok (.iconst 0, 1) := by decide +kernel
theorem dX9_lose_22 : decode cX9_lose 22 = .ok (.iastore, 1) := by decide +kernel
theorem dX9_lose_23 : decode cX9_lose 23 = .ok (.iload_n 2, 1) := by decide +kernel
theorem dX9_lose_24 : decode cX9_lose 24 = .ok (.ireturn, 1) := by decide +kernel
theorem dX9_isFull_0 : decode cX9_isFull 0 = .ok (.aload_n 0, 1) := by decide +kernel
theorem dX9_isFull_1 : decode cX9_isFull 1 = .ok (.getfield 72, 3) := by decide +kernel
theorem dX9_isFull_4 : decode cX9_isFull 4 = .ok (.iload_n 1, 1) := by decide +kernel
theorem dX9_isFull_5 : decode cX9_isFull 5 = .ok (.iaload, 1) := by decide +kernel
theorem dX9_isFull_6 : decode cX9_isFull 6 = .ok (.aload_n 0, 1) := by decide +kernel
theorem dX9_isFull_7 : decode cX9_isFull 7 = .ok (.getfield 75, 3) := by decide +kernel
theorem dX9_isFull_10 : decode cX9_isFull 10 = .ok (.iload_n 1, 1) := by decide +kernel
theorem dX9_isFull_11 : decode cX9_isFull 11 = .ok (.iaload, 1) := by decide +kernel
theorem dX9_isFull_12 : decode cX9_isFull 12 = .ok (.iconst 3, 1) := by decide +kernel
theorem dX9_isFull_13 : decode cX9_isFull 13 = .ok (.isub, 1) := by decide +kernel
theorem dX9_isFull_14 : decode cX9_isFull 14 = .ok (.if_icmp .ne 7, 3) := by decide +kernel
theorem dX9_isFull_17 : decode cX9_isFull 17 = .ok (.iconst 1, 1) := by decide +kernel
theorem dX9_isFull_18 : decode cX9_isFull 18 = .ok (.goto 4, 3) := by decide +kernel
theorem dX9_isFull_21 : decode cX9_isFull 21 = .ok (.iconst 0, 1) := by decide +kernel
theorem dX9_isFull_22 : decode cX9_isFull 22 = .ok (.ireturn, 1) := by decide +kernel
set_option maxRecDepth 20000 in
theorem ggX9_taken_X9_isHolder : GoodIn wsX9_taken wsX9_isHolder := goodIn_r _ [9, 10, 11, 12, 8, 13] (by decide +kernel) (by decide +kernel)
set_option maxRecDepth 20000 in
theorem gX9_taken_X9_isHolder : GoodIn wsX9_taken (va_wsS RX9 330 yX9_isHolder wsX9_isHolder) := goodIn_app (goodIn_of _ (by decide +kernel)) ggX9_taken_X9_isHolder
set_option maxRecDepth 20000 in
theorem ggX9_taken_X9_in : GoodIn wsX9_taken wsX9_in := goodIn_r _ [13] (by decide +kernel) (by decide +kernel)
set_option maxRecDepth 20000 in
theorem gX9_taken_X9_in : GoodIn wsX9_taken (va_wsS RX9 110 yX9_in wsX9_in) := goodIn_app (goodIn_of _ (by decide +kernel)) ggX9_taken_X9_in
set_option maxRecDepth 20000 in
theorem ggX9_taken_X9_isFull : GoodIn wsX9_taken wsX9_isFull := goodIn_r _ [17, 4, 5, 18, 19, 20, 21, 22, 23, 24, 25, 26, 27, 28, 29, 30, 31, 32, 33, 34, 35, 36, 37, 38, 39, 40, 41, 42, 43, 44, 45, 46, 47, 48, 49, 50, 51, 52, 53, 54, 55, 56, 57, 58, 59] (by decide +kernel) (by decide +kernel)
set_option maxRecDepth 20000 in
theorem gX9_taken_X9_isFull : GoodIn wsX9_taken (wsV RX9 338 RX9 yX9_isFull wsX9_isFull) := goodIn_app (goodIn_of _ (by decide +kernel)) ggX9_taken_X9_isFull
theorem dX9_taken_0 : decode cX9_taken 0 = .ok (.iload_n 1, 1) := by decide +kernel
theorem dX9_taken_1 : decode cX9_taken 1 = .ok (.invokestatic 330, 3) := by decide +kernel
theorem dX9_taken_4 : decode cX9_taken 4 = .ok (.ifCond .eq 15, 3) := by decide +kernel
theorem dX9_taken_7 : decode cX9_taken 7 = .ok (.iload_n 2, 1) := by decide +kernel
theorem dX9_taken_8 : decode cX9_taken 8 = .ok (.i2l, 1) := by decide +kernel
theorem dX9_taken_9 : decode cX9_taken 9 = .ok (.lconst 0, 1) := by decide +kernel
theorem dX9_taken_10 : decode cX9_taken 10 = .ok (.ldc2_w 128, 3) := by decide +kernel
theorem dX9_taken_13 : decode cX9_taken 13 = .ok (.invokestatic 110, 3) := by decide +kernel
theorem dX9_taken_16 : decode cX9_taken 16 = .ok (.ifCond .ne 5, 3) := by decide +kernel
theorem dX9_taken_19 : decode cX9_taken 19 = .ok (.iconst (-1), 1) := by decide +kernel
theorem dX9_taken_20 : decode cX9_taken 20 = .ok (.ireturn, 1) := by decide +kernel
theorem dX9_taken_21 : decode cX9_taken 21 = .ok (.aload_n 0, 1) := by decide +kernel
theorem dX9_taken_22 : decode cX9_taken 22 = .ok (.getfield 65, 3) := by decide +kernel
theorem dX9_taken_25 : decode cX9_taken 25 = .ok (.iload_n 1, 1) := by decide +kernel
theorem dX9_taken_26 : decode cX9_taken 26 = .ok (.iaload, 1) := by decide +kernel
theorem dX9_taken_27 : decode cX9_taken 27 = .ok (.ifCond .ne 6, 3) := by decide +kernel
theorem dX9_taken_30 : decode cX9_taken 30 = .ok (.bipush (-11), 2) := by decide +kernel
theorem dX9_taken_32 : decode cX9_taken 32 = .ok (.ireturn, 1) := by decide +kernel
theorem dX9_taken_33 : decode cX9_taken 33 = .ok (.iload_n 2, 1) := by decide +kernel
theorem dX9_taken_34 : decode cX9_taken 34 = .ok (.ifCond .ne 26, 3) := by decide +kernel
theorem dX9_taken_37 : decode cX9_taken 37 = .ok (.aload_n 0, 1) := by decide +kernel
theorem dX9_taken_38 : decode cX9_taken 38 = .ok (.getfield 65, 3) := by decide +kernel
theorem dX9_taken_41 : decode cX9_taken 41 = .ok (.iload_n 1, 1) := by decide +kernel
theorem dX9_taken_42 : decode cX9_taken 42 = .ok (.iaload, 1) := by decide +kernel
theorem dX9_taken_43 : decode cX9_taken 43 = .ok (.iconst 1, 1) := by decide +kernel
theorem dX9_taken_44 : decode cX9_taken 44 = .ok (.if_icmp .ne 13, 3) := by decide +kernel
theorem dX9_taken_47 : decode cX9_taken 47 = .ok (.aload_n 0, 1) := by decide +kernel
theorem dX9_taken_48 : decode cX9_taken 48 = .ok (.getfield 68, 3) := by decide +kernel
theorem dX9_taken_51 : decode cX9_taken 51 = .ok (.iload_n 1, 1) := by decide +kernel
theorem dX9_taken_52 : decode cX9_taken 52 = .ok (.laload, 1) := by decide +kernel
theorem dX9_taken_53 : decode cX9_taken 53 = .ok (.l2i, 1) := by decide +kernel
theorem dX9_taken_54 : decode cX9_taken 54 = .ok (.goto 5, 3) := by decide +kernel
theorem dX9_taken_57 : decode cX9_taken 57 = .ok (.bipush (-12), 2) := by decide +kernel
theorem dX9_taken_59 : decode cX9_taken 59 = .ok (.ireturn, 1) := by decide +kernel
theorem dX9_taken_60 : decode cX9_taken 60 = .ok (.aload_n 0, 1) := by decide +kernel
theorem dX9_taken_61 : decode cX9_taken 61 = .ok (.getfield 65, 3) := by decide +kernel
theorem dX9_taken_64 : decode cX9_taken 64 = .ok (.iload_n 1, 1) := by decide +kernel
theorem dX9_taken_65 : decode cX9_taken 65 = .ok (.iaload, 1) := by decide +kernel
theorem dX9_taken_66 : decode cX9_taken 66 = .ok (.iconst 2, 1) := by decide +kernel
theorem dX9_taken_67 : decode cX9_taken 67 = .ok (.if_icmp .eq 6, 3) := by decide +kernel
theorem dX9_taken_70 : decode cX9_taken 70 = .ok (.bipush (-12), 2) := by decide +kernel
theorem dX9_taken_72 : decode cX9_taken 72 = .ok (.ireturn, 1) := by decide +kernel
theorem dX9_taken_73 : decode cX9_taken 73 = .ok (.iload_n 2, 1) := by decide +kernel
theorem dX9_taken_74 : decode cX9_taken 74 = .ok (.iconst 1, 1) := by decide +kernel
theorem dX9_taken_75 : decode cX9_taken 75 = .ok (.if_icmp .ne 10, 3) := by decide +kernel
theorem dX9_taken_78 : decode cX9_taken 78 = .ok (.aload_n 0, 1) := by decide +kernel
theorem dX9_taken_79 : decode cX9_taken 79 = .ok (.getfield 72, 3) := by decide +kernel
theorem dX9_taken_82 : decode cX9_taken 82 = .ok (.iload_n 1, 1) := by decide +kernel
theorem dX9_taken_83 : decode cX9_taken 83 = .ok (.iaload, 1) := by decide +kernel
theorem dX9_taken_84 : decode cX9_taken 84 = .ok (.ireturn, 1) := by decide +kernel
theorem dX9_taken_85 : decode cX9_taken 85 = .ok (.iload_n 2, 1) := by decide +kernel
theorem dX9_taken_86 : decode cX9_taken 86 = .ok (.iconst 2, 1) := by decide +kernel
theorem dX9_taken_87 : decode cX9_taken 87 = .ok (.if_icmp .ne 11, 3) := by decide +kernel
theorem dX9_taken_90 : decode cX9_taken 90 = .ok (.aload_n 0, 1) := by decide +kernel
theorem dX9_taken_91 : decode cX9_taken 91 = .ok (.iload_n 1, 1) := by decide +kernel
theorem dX9_taken_92 : decode cX9_taken 92 = .ok (.invokevirtual 338, 3) := by decide +kernel
theorem dX9_taken_95 : decode cX9_taken 95 = .ok (.goto 25, 3) := by decide +kernel
theorem dX9_taken_98 : decode cX9_taken 98 = .ok (.aload_n 0, 1) := by decide +kernel
theorem dX9_taken_99 : decode cX9_taken 99 = .ok (.iload_n 1, 1) := by decide +kernel
theorem dX9_taken_100 : decode cX9_taken 100 = .ok (.invokevirtual 338, 3) := by decide +kernel
theorem dX9_taken_103 : decode cX9_taken 103 = .ok (.ifCond .ne 16, 3) := by decide +kernel
theorem dX9_taken_106 : decode cX9_taken 106 = .ok (.aload_n 0, 1) := by decide +kernel
theorem dX9_taken_107 : decode cX9_taken 107 = .ok (.getfield 72, 3) := by decide +kernel
theorem dX9_taken_110 : decode cX9_taken 110 = .ok (.iload_n 1, 1) := by decide +kernel
theorem dX9_taken_111 : decode cX9_taken 111 = .ok (.iaload, 1) := by decide +kernel
theorem dX9_taken_112 : decode cX9_taken 112 = .ok (.ifCond .ne 7, 3) := by decide +kernel
theorem dX9_taken_115 : decode cX9_taken 115 = .ok (.iconst 1, 1) := by decide +kernel
theorem dX9_taken_116 : decode cX9_taken 116 = .ok (.goto 4, 3) := by decide +kernel
theorem dX9_taken_119 : decode cX9_taken 119 = .ok (.iconst 0, 1) := by decide +kernel
theorem dX9_taken_120 : decode cX9_taken 120 = .ok (.istore_n 3, 1) := by decide +kernel
theorem dX9_taken_121 : decode cX9_taken 121 = .ok (.iload_n 3, 1) := by decide +kernel
theorem dX9_taken_122 : decode cX9_taken 122 = .ok (.ifCond .eq 12, 3) := by decide +kernel
theorem dX9_taken_125 : decode cX9_taken 125 = .ok (.aload_n 0, 1) := by decide +kernel
theorem dX9_taken_126 : decode cX9_taken 126 = .ok (.getfield 75, 3) := by decide +kernel
theorem dX9_taken_129 : decode cX9_taken 129 = .ok (.iload_n 1, 1) := by decide +kernel
theorem dX9_taken_130 : decode cX9_taken 130 = .ok (.iaload, 1) := by decide +kernel
theorem dX9_taken_131 : decode cX9_taken 131 = .ok (.goto 5, 3) := by decide +kernel
theorem dX9_taken_134 : decode cX9_taken 134 = .ok (.bipush (-12), 2) := by decide +kernel
theorem dX9_taken_136 : decode cX9_taken 136 = .ok (.ireturn, 1) := by decide +kernel
set_option maxRecDepth 20000 in
theorem ggX9_common__X9_isHolder : GoodIn wsX9_common_ wsX9_isHolder := goodIn_r _ [9, 10, 11, 12, 8, 13] (by decide +kernel) (by decide +kernel)
set_option maxRecDepth 20000 in
theorem gX9_common__X9_isHolder : GoodIn wsX9_common_ (va_wsS RX9 330 yX9_isHolder wsX9_isHolder) := goodIn_app (goodIn_of _ (by decide +kernel)) ggX9_common__X9_isHolder
set_option maxRecDepth 20000 in
theorem ggX9_common__X9_placeOf : GoodIn wsX9_common_ wsX9_placeOf := goodIn_r _ [17, 18, 19, 20, 21, 22, 23, 24, 25, 26, 27, 28, 29, 30, 31, 32, 33, 34, 35, 36, 37, 38, 39, 40, 41, 42, 43, 44, 45, 46, 47, 48, 49, 50, 51, 52, 53, 54, 55, 56, 57, 58, 59, 60, 61] (by decide +kernel) (by decide +kernel)
set_option maxRecDepth 20000 in
theorem gX9_common__X9_placeOf : GoodIn wsX9_common_ (wsV RX9 226 RX9 yX9_placeOf wsX9_placeOf) := goodIn_app (goodIn_of _ (by decide +kernel)) ggX9_common__X9_placeOf
theorem dX9_common__0 : decode cX9_common_ 0 = .ok (.iload_n 1, 1) := by decide +kernel
theorem dX9_common__1 : decode cX9_common_ 1 = .ok (.invokestatic 330, 3) := by decide +kernel
theorem dX9_common__4 : decode cX9_common_ 4 = .ok (.ifCond .ne 5, 3) := by decide +kernel
theorem dX9_common__7 : decode cX9_common_ 7 = .ok (.iconst (-1), 1) := by decide +kernel
theorem dX9_common__8 : decode cX9_common_ 8 = .ok (.ireturn, 1) := by decide +kernel
theorem dX9_common__9 : decode cX9_common_ 9 = .ok (.aload_n 0, 1) := by decide +kernel
theorem dX9_common__10 : decode cX9_common_ 10 = .ok (.getfield 65, 3) := by decide +kernel
theorem dX9_common__13 : decode cX9_common_ 13 = .ok (.iload_n 1, 1) := by decide +kernel
theorem dX9_common__14 : decode cX9_common_ 14 = .ok (.iaload, 1) := by decide +kernel
theorem dX9_common__15 : decode cX9_common_ 15 = .ok (.iconst 2, 1) := by decide +kernel
theorem dX9_common__16 : decode cX9_common_ 16 = .ok (.if_icmp .eq 20, 3) := by decide +kernel
theorem dX9_common__19 : decode cX9_common_ 19 = .ok (.aload_n 0, 1) := by decide +kernel
theorem dX9_common__20 : decode cX9_common_ 20 = .ok (.getfield 65, 3) := by decide +kernel
theorem dX9_common__23 : decode cX9_common_ 23 = .ok (.iload_n 1, 1) := by decide +kernel
theorem dX9_common__24 : decode cX9_common_ 24 = .ok (.iaload, 1) := by decide +kernel
theorem dX9_common__25 : decode cX9_common_ 25 = .ok (.ifCond .ne 8, 3) := by decide +kernel
theorem dX9_common__28 : decode cX9_common_ 28 = .ok (.bipush (-11), 2) := by decide +kernel
theorem dX9_common__30 : decode cX9_common_ 30 = .ok (.goto 5, 3) := by decide +kernel
theorem dX9_common__33 : decode cX9_common_ 33 = .ok (.bipush (-12), 2) := by decide +kernel
theorem dX9_common__35 : decode cX9_common_ 35 = .ok (.ireturn, 1) := by decide +kernel
theorem dX9_common__36 : decode cX9_common_ 36 = .ok (.aload_n 0, 1) := by decide +kernel
theorem dX9_common__37 : decode cX9_common_ 37 = .ok (.getfield 75, 3) := by decide +kernel
theorem dX9_common__40 : decode cX9_common_ 40 = .ok (.iload_n 1, 1) := by decide +kernel
theorem dX9_common__41 : decode cX9_common_ 41 = .ok (.iaload, 1) := by decide +kernel
theorem dX9_common__42 : decode cX9_common_ 42 = .ok (.aload_n 0, 1) := by decide +kernel
theorem dX9_common__43 : decode cX9_common_ 43 = .ok (.getfield 15, 3) := by decide +kernel
theorem dX9_common__46 : decode cX9_common_ 46 = .ok (.if_icmp .eq 6, 3) := by decide +kernel
theorem dX9_common__49 : decode cX9_common_ 49 = .ok (.bipush (-5), 2) := by decide +kernel
theorem dX9_common__51 : decode cX9_common_ 51 = .ok (.ireturn, 1) := by decide +kernel
theorem dX9_common__52 : decode cX9_common_ 52 = .ok (.iconst 0, 1) := by decide +kernel
theorem dX9_common__53 : decode cX9_common_ 53 = .ok (.istore_n 2, 1) := by decide +kernel
theorem dX9_common__54 : decode cX9_common_ 54 = .ok (.iconst 0, 1) := by decide +kernel
theorem dX9_common__55 : decode cX9_common_ 55 = .ok (.istore_n 3, 1) := by decide +kernel
theorem dX9_common__56 : decode cX9_common_ 56 = .ok (.iload_n 3, 1) := by decide +kernel
theorem dX9_common__57 : decode cX9_common_ 57 = .ok (.aload_n 0, 1) := by decide +kernel
theorem dX9_common__58 : decode cX9_common_ 58 = .ok (.getfield 72, 3) := by decide +kernel
theorem dX9_common__61 : decode cX9_common_ 61 = .ok (.iload_n 1, 1) := by decide +kernel
theorem dX9_common__62 : decode cX9_common_ 62 = .ok (.iaload, 1) := by decide +kernel
theorem dX9_common__63 : decode cX9_common_ 63 = .ok (.if_icmp .ge 35, 3) := by decide +kernel
theorem dX9_common__66 : decode cX9_common_ 66 = .ok (.iload_n 2, 1) := by decide +kernel
theorem dX9_common__67 : decode cX9_common_ 67 = .ok (.aload_n 0, 1) := by decide +kernel
theorem dX9_common__68 : decode cX9_common_ 68 = .ok (.aload_n 0, 1) := by decide +kernel
theorem dX9_common__69 : decode cX9_common_ 69 = .ok (.getfield 78, 3) := by decide +kernel
theorem dX9_common__72 : decode cX9_common_ 72 = .ok (.bipush 20, 2) := by decide +kernel
theorem dX9_common__74 : decode cX9_common_ 74 = .ok (.iload_n 1, 1) := by decide +kernel
theorem dX9_common__75 : decode cX9_common_ 75 = .ok (.imul, 1) := by decide +kernel
theorem dX9_common__76 : decode cX9_common_ 76 = .ok (.iload_n 3, 1) := by decide +kernel
theorem dX9_common__77 : decode cX9_common_ 77 = .ok (.iadd, 1) := by decide +kernel
theorem dX9_common__78 : decode cX9_common_ 78 = .ok (.iaload, 1) := by decide +kernel
theorem dX9_common__79 : decode cX9_common_ 79 = .ok (.invokevirtual 226, 3) := by decide +kernel
theorem dX9_common__82 : decode cX9_common_ 82 = .ok (.ifCond .lt 7, 3) := by decide +kernel
theorem dX9_common__85 : decode cX9_common_ 85 = .ok (.iconst 1, 1) := by decide +kernel
theorem dX9_common__86 : decode cX9_common_ 86 = .ok (.goto 4, 3) := by decide +kernel
theorem dX9_common__89 : decode cX9_common_ 89 = .ok (.iconst 0, 1) := by decide +kernel
theorem dX9_common__90 : decode cX9_common_ 90 = .ok (.iadd, 1) := by decide +kernel
theorem dX9_common__91 : decode cX9_common_ 91 = .ok (.istore_n 2, 1) := by decide +kernel
theorem dX9_common__92 : decode cX9_common_ 92 = .ok (.iinc 3 1, 3) := by decide +kernel
theorem dX9_common__95 : decode cX9_common_ 95 = .ok (.goto (-39), 3) := by decide +kernel
theorem dX9_common__98 : decode cX9_common_ 98 = .ok (.iload_n 2, 1) := by decide +kernel
theorem dX9_common__99 : decode cX9_common_ 99 = .ok (.ireturn, 1) := by decide +kernel
set_option maxRecDepth 20000 in
theorem ggX9_row_X9_isHolder : GoodIn wsX9_row wsX9_isHolder := goodIn_r _ [7, 8, 9, 10, 6, 11] (by decide +kernel) (by decide +kernel)
set_option maxRecDepth 20000 in
theorem gX9_row_X9_isHolder : GoodIn wsX9_row (va_wsS RX9 330 yX9_isHolder wsX9_isHolder) := goodIn_app (goodIn_of _ (by decide +kernel)) ggX9_row_X9_isHolder
theorem dX9_row_0 : decode cX9_row 0 = .ok (.iload_n 1, 1) := by decide +kernel
theorem dX9_row_1 : decode cX9_row 1 = .ok (.invokestatic 330, 3) := by decide +kernel
theorem dX9_row_4 : decode cX9_row 4 = .ok (.ifCond .eq 9, 3) := by decide +kernel
theorem dX9_row_7 : decode cX9_row 7 = .ok (.iload_n 2, 1) := by decide +kernel
theorem dX9_row_8 : decode cX9_row 8 = .ok (.bipush 20, 2) := by decide +kernel
theorem dX9_row_10 : decode cX9_row 10 = .ok (.if_icmp .le 5, 3) := by decide +kernel
theorem dX9_row_13 : decode cX9_row 13 = .ok (.iconst (-1), 1) := by decide +kernel
theorem dX9_row_14 : decode cX9_row 14 = .ok (.ireturn, 1) := by decide +kernel
theorem dX9_row_15 : decode cX9_row 15 = .ok (.iload_n 2, 1) := by decide +kernel
theorem dX9_row_16 : decode cX9_row 16 = .ok (.ifCond .ge 6, 3) := by decide +kernel
theorem dX9_row_19 : decode cX9_row 19 = .ok (.bipush (-14), 2) := by decide +kernel
theorem dX9_row_21 : decode cX9_row 21 = .ok (.ireturn, 1) := by decide +kernel
theorem dX9_row_22 : decode cX9_row 22 = .ok (.aload_n 0, 1) := by decide +kernel
theorem dX9_row_23 : decode cX9_row 23 = .ok (.getfield 65, 3) := by decide +kernel
theorem dX9_row_26 : decode cX9_row 26 = .ok (.iload_n 1, 1) := by decide +kernel
theorem dX9_row_27 : decode cX9_row 27 = .ok (.iconst 3, 1) := by decide +kernel
theorem dX9_row_28 : decode cX9_row 28 = .ok (.iastore, 1) := by decide +kernel
theorem dX9_row_29 : decode cX9_row 29 = .ok (.aload_n 0, 1) := by decide +kernel
theorem dX9_row_30 : decode cX9_row 30 = .ok (.getfield 72, 3) := by decide +kernel
theorem dX9_row_33 : decode cX9_row 33 = .ok (.iload_n 1, 1) := by decide +kernel
theorem dX9_row_34 : decode cX9_row 34 = .ok (.iload_n 2, 1) := by decide +kernel
theorem dX9_row_35 : decode cX9_row 35 = .ok (.iastore, 1) := by decide +kernel
theorem dX9_row_36 : decode cX9_row 36 = .ok (.iconst 0, 1) := by decide +kernel
theorem dX9_row_37 : decode cX9_row 37 = .ok (.istore_n 3, 1) := by decide +kernel
theorem dX9_row_38 : decode cX9_row 38 = .ok (.iload_n 3, 1) := by decide +kernel
theorem dX9_row_39 : decode cX9_row 39 = .ok (.bipush 20, 2) := by decide +kernel
theorem dX9_row_41 : decode cX9_row 41 = .ok (.if_icmp .ge 21, 3) := by decide +kernel
theorem dX9_row_44 : decode cX9_row 44 = .ok (.aload_n 0, 1) := by decide +kernel
theorem dX9_row_45 : decode cX9_row 45 = .ok (.getfield 78, 3) := by decide +kernel
theorem dX9_row_48 : decode cX9_row 48 = .ok (.bipush 20, 2) := by decide +kernel
theorem dX9_row_50 : decode cX9_row 50 = .ok (.iload_n 1, 1) := by decide +kernel
theorem dX9_row_51 : decode cX9_row 51 = .ok (.imul, 1) := by decide +kernel
theorem dX9_row_52 : decode cX9_row 52 = .ok (.iload_n 3, 1) := by decide +kernel
theorem dX9_row_53 : decode cX9_row 53 = .ok (.iadd, 1) := by decide +kernel
theorem dX9_row_54 : decode cX9_row 54 = .ok (.iconst 0, 1) := by decide +kernel
theorem dX9_row_55 : decode cX9_row 55 = .ok (.iastore, 1) := by decide +kernel
theorem dX9_row_56 : decode cX9_row 56 = .ok (.iinc 3 1, 3) := by decide +kernel
theorem dX9_row_59 : decode cX9_row 59 = .ok (.goto (-21), 3) := by decide +kernel
theorem dX9_row_62 : decode cX9_row 62 = .ok (.iload_n 2, 1) := by decide +kernel
theorem dX9_row_63 : decode cX9_row 63 = .ok (.ireturn, 1) := by decide +kernel
theorem dX9_rowless_0 : decode cX9_rowless 0 = .ok (.aload_n 0, 1) := by decide +kernel
theorem dX9_rowless_1 : decode cX9_rowless 1 = .ok (.getfield 65, 3) := by decide +kernel
theorem dX9_rowless_4 : decode cX9_rowless 4 = .ok (.iload_n 1, 1) := by decide +kernel
theorem dX9_rowless_5 : decode cX9_rowless 5 = .ok (.iaload, 1) := by decide +kernel
theorem dX9_rowless_6 : decode cX9_rowless 6 = .ok (.ifCond .ne 8, 3) := by decide +kernel
theorem dX9_rowless_9 : decode cX9_rowless 9 = .ok (.bipush (-11), 2) := by decide +kernel
theorem dX9_rowless_11 : decode cX9_rowless 11 = .ok (.goto 19, 3) := by decide +kernel
theorem dX9_rowless_14 : decode cX9_rowless 14 = .ok (.aload_n 0, 1) := by decide +kernel
theorem dX9_rowless_15 : decode cX9_rowless 15 = .ok (.getfield 65, 3) := by decide +kernel
theorem dX9_rowless_18 : decode cX9_rowless 18 = .ok (.iload_n 1, 1) := by decide +kernel
theorem dX9_rowless_19 : decode cX9_rowless 19 = .ok (.iaload, 1) := by decide +kernel
theorem dX9_rowless_20 : decode cX9_rowless 20 = .ok (.iconst 3, 1) := by decide +kernel
theorem dX9_rowless_21 : decode cX9_rowless 21 = .ok (.if_icmp .ne 7, 3) := by decide +kernel
theorem dX9_rowless_24 : decode cX9_rowless 24 = .ok (.iconst 0, 1) := by decide +kernel
theorem dX9_rowless_25 : decode cX9_rowless 25 = .ok (.goto 5, 3) := by decide +kernel
theorem dX9_rowless_28 : decode cX9_rowless 28 = .ok (.bipush (-12), 2) := by decide +kernel
theorem dX9_rowless_30 : decode cX9_rowless 30 = .ok (.ireturn, 1) := by decide +kernel
set_option maxRecDepth 20000 in
theorem ggX9_set_X9_isHolder : GoodIn wsX9_set wsX9_isHolder := goodIn_r _ [6, 7, 8, 9, 5, 10] (by decide +kernel) (by decide +kernel)
set_option maxRecDepth 20000 in
theorem gX9_set_X9_isHolder : GoodIn wsX9_set (va_wsS RX9 330 yX9_isHolder wsX9_isHolder) := goodIn_app (goodIn_of _ (by decide +kernel)) ggX9_set_X9_isHolder
set_option maxRecDepth 20000 in
theorem ggX9_set_X9_rowless : GoodIn wsX9_set wsX9_rowless := goodIn_r _ [14, 15, 16, 17, 18, 19, 20, 21, 22, 23, 24, 25, 26, 27, 28, 29, 30, 31, 32, 33, 34, 35, 36, 37, 38, 39, 40, 41, 42, 43, 44, 45, 46, 47, 48, 49, 50, 51, 52, 53, 54, 55, 56, 57] (by decide +kernel) (by decide +kernel)
set_option maxRecDepth 20000 in
theorem gX9_set_X9_rowless : GoodIn wsX9_set (wsV RX9 341 RX9 yX9_rowless wsX9_rowless) := goodIn_app (goodIn_of _ (by decide +kernel)) ggX9_set_X9_rowless
set_option maxRecDepth 20000 in
theorem ggX9_set_X9_in : GoodIn wsX9_set wsX9_in := goodIn_r _ [10] (by decide +kernel) (by decide +kernel)
set_option maxRecDepth 20000 in
theorem gX9_set_X9_in : GoodIn wsX9_set (va_wsS RX9 110 yX9_in wsX9_in) := goodIn_app (goodIn_of _ (by decide +kernel)) ggX9_set_X9_in
theorem dX9_set_0 : decode cX9_set 0 = .ok (.iload_n 1, 1) := by decide +kernel
theorem dX9_set_1 : decode cX9_set 1 = .ok (.invokestatic 330, 3) := by decide +kernel
theorem dX9_set_4 : decode cX9_set 4 = .ok (.ifCond .ne 5, 3) := by decide +kernel
theorem dX9_set_7 : decode cX9_set 7 = .ok (.iconst (-1), 1) := by decide +kernel
theorem dX9_set_8 : decode cX9_set 8 = .ok (.ireturn, 1) := by decide +kernel
theorem dX9_set_9 : decode cX9_set 9 = .ok (.aload_n 0, 1) := by decide +kernel
theorem dX9_set_10 : decode cX9_set 10 = .ok (.iload_n 1, 1) := by decide +kernel
theorem dX9_set_11 : decode cX9_set 11 = .ok (.invokevirtual 341, 3) := by decide +kernel
theorem dX9_set_14 : decode cX9_set 14 = .ok (.ifCond .eq 9, 3) := by decide +kernel
theorem dX9_set_17 : decode cX9_set 17 = .ok (.aload_n 0, 1) := by decide +kernel
theorem dX9_set_18 : decode cX9_set 18 = .ok (.iload_n 1, 1) := by decide +kernel
theorem dX9_set_19 : decode cX9_set 19 = .ok (.invokevirtual 341, 3) := by decide +kernel
theorem dX9_set_22 : decode cX9_set 22 = .ok (.ireturn, 1) := by decide +kernel
theorem dX9_set_23 : decode cX9_set 23 = .ok (.iload_n 2, 1) := by decide +kernel
theorem dX9_set_24 : decode cX9_set 24 = .ok (.i2l, 1) := by decide +kernel
theorem dX9_set_25 : decode cX9_set 25 = .ok (.lconst 0, 1) := by decide +kernel
theorem dX9_set_26 : decode cX9_set 26 = .ok (.aload_n 0, 1) := by decide +kernel
theorem dX9_set_27 : decode cX9_set 27 = .ok (.getfield 72, 3) := by decide +kernel
theorem dX9_set_30 : decode cX9_set 30 = .ok (.iload_n 1, 1) := by decide +kernel
theorem dX9_set_31 : decode cX9_set 31 = .ok (.iaload, 1) := by decide +kernel
theorem dX9_set_32 : decode cX9_set 32 = .ok (.iconst 1, 1) := by decide +kernel
theorem dX9_set_33 : decode cX9_set 33 = .ok (.isub, 1) := by decide +kernel
theorem dX9_set_34 : decode cX9_set 34 = .ok (.i2l, 1) := by decide +kernel
theorem dX9_set_35 : decode cX9_set 35 = .ok (.invokestatic 110, 3) := by decide +kernel
theorem dX9_set_38 : decode cX9_set 38 = .ok (.ifCond .ne 6, 3) := by decide +kernel
theorem dX9_set_41 : decode cX9_set 41 = .ok (.bipush (-13), 2) := by decide +kernel
theorem dX9_set_43 : decode cX9_set 43 = .ok (.ireturn, 1) := by decide +kernel
theorem dX9_set_44 : decode cX9_set 44 = .ok (.aload_n 0, 1) := by decide +kernel
theorem dX9_set_45 : decode cX9_set 45 = .ok (.getfield 78, 3) := by decide +kernel
theorem dX9_set_48 : decode cX9_set 48 = .ok (.bipush 20, 2) := by decide +kernel
theorem dX9_set_50 : decode cX9_set 50 = .ok (.iload_n 1, 1) := by decide +kernel
theorem dX9_set_51 : decode cX9_set 51 = .ok (.imul, 1) := by decide +kernel
theorem dX9_set_52 : decode cX9_set 52 = .ok (.iload_n 2, 1) := by decide +kernel
theorem dX9_set_53 : decode cX9_set 53 = .ok (.iadd, 1) := by decide +kernel
theorem dX9_set_54 : decode cX9_set 54 = .ok (.iload_n 3, 1) := by decide +kernel
theorem dX9_set_55 : decode cX9_set 55 = .ok (.iastore, 1) := by decide +kernel
theorem dX9_set_56 : decode cX9_set 56 = .ok (.iconst 1, 1) := by decide +kernel
theorem dX9_set_57 : decode cX9_set 57 = .ok (.ireturn, 1) := by decide +kernel
set_option maxRecDepth 20000 in
theorem ggX9_get_X9_isHolder : GoodIn wsX9_get wsX9_isHolder := goodIn_r _ [8, 9, 10, 11, 7, 12] (by decide +kernel) (by decide +kernel)
set_option maxRecDepth 20000 in
theorem gX9_get_X9_isHolder : GoodIn wsX9_get (va_wsS RX9 330 yX9_isHolder wsX9_isHolder) := goodIn_app (goodIn_of _ (by decide +kernel)) ggX9_get_X9_isHolder
set_option maxRecDepth 20000 in
theorem ggX9_get_X9_in : GoodIn wsX9_get wsX9_in := goodIn_r _ [12] (by decide +kernel) (by decide +kernel)
set_option maxRecDepth 20000 in
theorem gX9_get_X9_in : GoodIn wsX9_get (va_wsS RX9 110 yX9_in wsX9_in) := goodIn_app (goodIn_of _ (by decide +kernel)) ggX9_get_X9_in
theorem dX9_get_0 : decode cX9_get 0 = .ok (.iload_n 1, 1) := by decide +kernel
theorem dX9_get_1 : decode cX9_get 1 = .ok (.invokestatic 330, 3) := by decide +kernel
theorem dX9_get_4 : decode cX9_get 4 = .ok (.ifCond .eq 46, 3) := by decide +kernel
theorem dX9_get_7 : decode cX9_get 7 = .ok (.aload_n 0, 1) := by decide +kernel
theorem dX9_get_8 : decode cX9_get 8 = .ok (.getfield 65, 3) := by decide +kernel
theorem dX9_get_11 : decode cX9_get 11 = .ok (.iload_n 1, 1) := by decide +kernel
theorem dX9_get_12 : decode cX9_get 12 = .ok (.iaload, 1) := by decide +kernel
theorem dX9_get_13 : decode cX9_get 13 = .ok (.iconst 3, 1) := by decide +kernel
theorem dX9_get_14 : decode cX9_get 14 = .ok (.if_icmp .ne 36, 3) := by decide +kernel
theorem dX9_get_17 : decode cX9_get 17 = .ok (.iload_n 2, 1) := by decide +kernel
theorem dX9_get_18 : decode cX9_get 18 = .ok (.i2l, 1) := by decide +kernel
theorem dX9_get_19 : decode cX9_get 19 = .ok (.lconst 0, 1) := by decide +kernel
theorem dX9_get_20 : decode cX9_get 20 = .ok (.aload_n 0, 1) := by decide +kernel
theorem dX9_get_21 : decode cX9_get 21 = .ok (.getfield 72, 3) := by decide +kernel
theorem dX9_get_24 : decode cX9_get 24 = .ok (.iload_n 1, 1) := by decide +kernel
theorem dX9_get_25 : decode cX9_get 25 = .ok (.iaload, 1) := by decide +kernel
theorem dX9_get_26 : decode cX9_get 26 = .ok (.iconst 1, 1) := by decide +kernel
theorem dX9_get_27 : decode cX9_get 27 = .ok (.isub, 1) := by decide +kernel
theorem dX9_get_28 : decode cX9_get 28 = .ok (.i2l, 1) := by decide +kernel
theorem dX9_get_29 : decode cX9_get 29 = .ok (.invokestatic 110, 3) := by decide +kernel
theorem dX9_get_32 : decode cX9_get 32 = .ok (.ifCond .eq 18, 3) := by decide +kernel
theorem dX9_get_35 : decode cX9_get 35 = .ok (.aload_n 0, 1) := by decide +kernel
theorem dX9_get_36 : decode cX9_get 36 = .ok (.getfield 78, 3) := by decide +kernel
theorem dX9_get_39 : decode cX9_get 39 = .ok (.bipush 20, 2) := by decide +kernel
theorem dX9_get_41 : decode cX9_get 41 = .ok (.iload_n 1, 1) := by decide +kernel
theorem dX9_get_42 : decode cX9_get 42 = .ok (.imul, 1) := by decide +kernel
theorem dX9_get_43 : decode cX9_get 43 = .ok (.iload_n 2, 1) := by decide +kernel
theorem dX9_get_44 : decode cX9_get 44 = .ok (.iadd, 1) := by decide +kernel
theorem dX9_get_45 : decode cX9_get 45 = .ok (.iaload, 1) := by decide +kernel
theorem dX9_get_46 : decode cX9_get 46 = .ok (.i2l, 1) := by decide +kernel
theorem dX9_get_47 : decode cX9_get 47 = .ok (.goto 6, 3) := by decide +kernel
theorem dX9_get_50 : decode cX9_get 50 = .ok (.ldc2_w 181, 3) := by decide +kernel
theorem dX9_get_53 : decode cX9_get 53 = .ok (.lreturn, 1) := by decide +kernel
set_option maxRecDepth 20000 in
theorem ggX9_judge_X9_isHolder : GoodIn wsX9_judge wsX9_isHolder := goodIn_r _ [8, 9, 10, 11, 7, 12] (by decide +kernel) (by decide +kernel)
set_option maxRecDepth 20000 in
theorem gX9_judge_X9_isHolder : GoodIn wsX9_judge (va_wsS RX9 330 yX9_isHolder wsX9_isHolder) := goodIn_app (goodIn_of _ (by decide +kernel)) ggX9_judge_X9_isHolder
set_option maxRecDepth 20000 in
theorem ggX9_judge_X9_rowless : GoodIn wsX9_judge wsX9_rowless := goodIn_r _ [16, 17, 18, 19, 20, 21, 22, 23, 24, 25, 26, 27, 28, 29, 30, 31, 32, 33, 34, 35, 36, 37, 38, 39, 40, 41, 42, 43, 44, 45, 46, 47, 48, 49, 50, 51, 52, 53, 54, 55, 56, 57, 58, 59] (by decide +kernel) (by decide +kernel)
set_option maxRecDepth 20000 in
theorem gX9_judge_X9_rowless : GoodIn wsX9_judge (wsV RX9 341 RX9 yX9_rowless wsX9_rowless) := goodIn_app (goodIn_of _ (by decide +kernel)) ggX9_judge_X9_rowless
theorem dX9_judge_0 : decode cX9_judge 0 = .ok (.iload_n 1, 1) := by decide +kernel
theorem dX9_judge_1 : decode cX9_judge 1 = .ok (.invokestatic 330, 3) := by decide +kernel
theorem dX9_judge_4 : decode cX9_judge 4 = .ok (.ifCond .ne 5, 3) := by decide +kernel
theorem dX9_judge_7 : decode cX9_judge 7 = .ok (.iconst (-1), 1) := by decide +kernel
theorem dX9_judge_8 : decode cX9_judge 8 = .ok (.ireturn, 1) := by decide +kernel
theorem dX9_judge_9 : decode cX9_judge 9 = .ok (.aload_n 0, 1) := by decide +kernel
theorem dX9_judge_10 : decode cX9_judge 10 = .ok (.iload_n 1, 1) := by decide +kernel
theorem dX9_judge_11 : decode cX9_judge 11 = .ok (.invokevirtual 341, 3) := by decide +kernel
theorem dX9_judge_14 : decode cX9_judge 14 = .ok (.ifCond .eq 9, 3) := by decide +kernel
theorem dX9_judge_17 : decode cX9_judge 17 = .ok (.aload_n 0, 1) := by decide +kernel
theorem dX9_judge_18 : decode cX9_judge 18 = .ok (.iload_n 1, 1) := by decide +kernel
theorem dX9_judge_19 : decode cX9_judge 19 = .ok (.invokevirtual 341, 3) := by decide +kernel
theorem dX9_judge_22 : decode cX9_judge 22 = .ok (.ireturn, 1) := by decide +kernel
theorem dX9_judge_23 : decode cX9_judge 23 = .ok (.iconst 0, 1) := by decide +kernel
theorem dX9_judge_24 : decode cX9_judge 24 = .ok (.istore_n 2, 1) := by decide +kernel
theorem dX9_judge_25 : decode cX9_judge 25 = .ok (.iload_n 2, 1) := by decide +kernel
theorem dX9_judge_26 : decode cX9_judge 26 = .ok (.aload_n 0, 1) := by decide +kernel
theorem dX9_judge_27 : decode cX9_judge 27 = .ok (.getfield 72, 3) := by decide +kernel
theorem dX9_judge_30 : decode cX9_judge 30 = .ok (.iload_n 1, 1) := by decide +kernel
theorem dX9_judge_31 : decode cX9_judge 31 = .ok (.iaload, 1) := by decide +kernel
theorem dX9_judge_32 : decode cX9_judge 32 = .ok (.if_icmp .lt 11, 3) := by decide +kernel
theorem dX9_judge_35 : decode cX9_judge 35 = .ok (.iload_n 2, 1) := by decide +kernel
theorem dX9_judge_36 : decode cX9_judge 36 = .ok (.aload_n 0, 1) := by decide +kernel
theorem dX9_judge_37 : decode cX9_judge 37 = .ok (.getfield 94, 3) := by decide +kernel
theorem dX9_judge_40 : decode cX9_judge 40 = .ok (.if_icmp .ge 49, 3) := by decide +kernel
theorem dX9_judge_43 : decode cX9_judge 43 = .ok (.iload_n 2, 1) := by decide +kernel
theorem dX9_judge_44 : decode cX9_judge 44 = .ok (.aload_n 0, 1) := by decide +kernel
theorem dX9_judge_45 : decode cX9_judge 45 = .ok (.getfield 72, 3) := by decide +kernel
theorem dX9_judge_48 : decode cX9_judge 48 = .ok (.iload_n 1, 1) := by decide +kernel
theorem dX9_judge_49 : decode cX9_judge 49 = .ok (.iaload, 1) := by decide +kernel
theorem dX9_judge_50 : decode cX9_judge 50 = .ok (.if_icmp .ge 31, 3) := by decide +kernel
theorem dX9_judge_53 : decode cX9_judge 53 = .ok (.iload_n 2, 1) := by decide +kernel
theorem dX9_judge_54 : decode cX9_judge 54 = .ok (.aload_n 0, 1) := by decide +kernel
theorem dX9_judge_55 : decode cX9_judge 55 = .ok (.getfield 94, 3) := by decide +kernel
theorem dX9_judge_58 : decode cX9_judge 58 = .ok (.if_icmp .ge 23, 3) := by decide +kernel
theorem dX9_judge_61 : decode cX9_judge 61 = .ok (.aload_n 0, 1) := by decide +kernel
theorem dX9_judge_62 : decode cX9_judge 62 = .ok (.getfield 78, 3) := by decide +kernel
theorem dX9_judge_65 : decode cX9_judge 65 = .ok (.bipush 20, 2) := by decide +kernel
theorem dX9_judge_67 : decode cX9_judge 67 = .ok (.iload_n 1, 1) := by decide +kernel
theorem dX9_judge_68 : decode cX9_judge 68 = .ok (.imul, 1) := by decide +kernel
theorem dX9_judge_69 : decode cX9_judge 69 = .ok (.iload_n 2, 1) := by decide +kernel
theorem dX9_judge_70 : decode cX9_judge 70 = .ok (.iadd, 1) := by decide +kernel
theorem dX9_judge_71 : decode cX9_judge 71 = .ok (.iaload, 1) := by decide +kernel
theorem dX9_judge_72 : decode cX9_judge 72 = .ok (.aload_n 0, 1) := by decide +kernel
theorem dX9_judge_73 : decode cX9_judge 73 = .ok (.getfield 19, 3) := by decide +kernel
theorem dX9_judge_76 : decode cX9_judge 76 = .ok (.iload_n 2, 1) := by decide +kernel
theorem dX9_judge_77 : decode cX9_judge 77 = .ok (.iaload, 1) := by decide +kernel
theorem dX9_judge_78 : decode cX9_judge 78 = .ok (.if_icmp .eq 5, 3) := by decide +kernel
theorem dX9_judge_81 : decode cX9_judge 81 = .ok (.iload_n 2, 1) := by decide +kernel
theorem dX9_judge_82 : decode cX9_judge 82 = .ok (.ireturn, 1) := by decide +kernel
theorem dX9_judge_83 : decode cX9_judge 83 = .ok (.iinc 2 1, 3) := by decide +kernel
theorem dX9_judge_86 : decode cX9_judge 86 = .ok (.goto (-61), 3) := by decide +kernel
theorem dX9_judge_89 : decode cX9_judge 89 = .ok (.bipush (-2), 2) := by decide +kernel
theorem dX9_judge_91 : decode cX9_judge 91 = .ok (.ireturn, 1) := by decide +kernel
set_option maxRecDepth 20000 in
theorem ggX9_image_X9_lays : GoodIn wsX9_image wsX9_lays := goodIn_r _ [8, 9, 3, 10, 11, 12, 13, 14, 15, 16, 17, 18, 19, 20, 21, 22, 23, 24, 25, 26, 27, 28, 29, 30, 31, 32, 33, 34, 35, 36, 37, 38, 39, 40, 41, 42, 43, 44, 45, 46, 47, 48, 49, 50, 51, 52, 53, 54, 55] (by decide +kernel) (by decide +kernel)
set_option maxRecDepth 20000 in
theorem gX9_image_X9_lays : GoodIn wsX9_image (wsV RX9 97 RX9 yX9_lays wsX9_lays) := goodIn_app (goodIn_of _ (by decide +kernel)) ggX9_image_X9_lays
theorem dX9_image_0 : decode cX9_image 0 = .ok (.aload_n 0, 1) := by decide +kernel
theorem dX9_image_1 : decode cX9_image 1 = .ok (.aload_n 0, 1) := by decide +kernel
theorem dX9_image_2 : decode cX9_image 2 = .ok (.getfield 81, 3) := by decide +kernel
theorem dX9_image_5 : decode cX9_image 5 = .ok (.iconst 0, 1) := by decide +kernel
theorem dX9_image_6 : decode cX9_image 6 = .ok (.invokevirtual 97, 3) := by decide +kernel
theorem dX9_image_9 : decode cX9_image 9 = .ok (.aload_n 0, 1) := by decide +kernel
theorem dX9_image_10 : decode cX9_image 10 = .ok (.iconst 1, 1) := by decide +kernel
theorem dX9_image_11 : decode cX9_image 11 = .ok (.putfield 344, 3) := by decide +kernel
theorem dX9_image_14 : decode cX9_image 14 = .ok (.aload_n 0, 1) := by decide +kernel
theorem dX9_image_15 : decode cX9_image 15 = .ok (.getfield 91, 3) := by decide +kernel
theorem dX9_image_18 : decode cX9_image 18 = .ok (.ireturn, 1) := by decide +kernel
set_option maxRecDepth 20000 in
theorem ggX9_restore_X9_takes : GoodIn wsX9_restore wsX9_takes := goodIn_r _ [10, 11, 5, 12, 13, 14, 15, 16, 17, 18, 19, 20, 21, 22, 23, 24, 25, 26, 27, 28, 29, 30, 31, 32, 33, 34, 35, 36, 37, 38, 39, 40, 41, 42, 43, 44, 45, 46, 47, 48, 49, 50, 51, 52, 53, 54, 55, 56, 57] (by decide +kernel) (by decide +kernel)
set_option maxRecDepth 20000 in
theorem gX9_restore_X9_takes : GoodIn wsX9_restore (wsV RX9 107 RX9 yX9_takes wsX9_takes) := goodIn_app (goodIn_of _ (by decide +kernel)) ggX9_restore_X9_takes
theorem dX9_restore_0 : decode cX9_restore 0 = .ok (.aload_n 0, 1) := by decide +kernel
theorem dX9_restore_1 : decode cX9_restore 1 = .ok (.getfield 344, 3) := by decide +kernel
theorem dX9_restore_4 : decode cX9_restore 4 = .ok (.ifCond .ne 6, 3) := by decide +kernel
theorem dX9_restore_7 : decode cX9_restore 7 = .ok (.bipush (-5), 2) := by decide +kernel
theorem dX9_restore_9 : decode cX9_restore 9 = .ok (.ireturn, 1) := by decide +kernel
theorem dX9_restore_10 : decode cX9_restore 10 = .ok (.aload_n 0, 1) := by decide +kernel
theorem dX9_restore_11 : decode cX9_restore 11 = .ok (.aload_n 0, 1) := by decide +kernel
theorem dX9_restore_12 : decode cX9_restore 12 = .ok (.getfield 81, 3) := by decide +kernel
theorem dX9_restore_15 : decode cX9_restore 15 = .ok (.iconst 0, 1) := by decide +kernel
theorem dX9_restore_16 : decode cX9_restore 16 = .ok (.invokevirtual 107, 3) := by decide +kernel
theorem dX9_restore_19 : decode cX9_restore 19 = .ok (.aload_n 0, 1) := by decide +kernel
theorem dX9_restore_20 : decode cX9_restore 20 = .ok (.iconst 0, 1) := by decide +kernel
theorem dX9_restore_21 : decode cX9_restore 21 = .ok (.putfield 101, 3) := by decide +kernel
theorem dX9_restore_24 : decode cX9_restore 24 = .ok (.aload_n 0, 1) := by decide +kernel
theorem dX9_restore_25 : decode cX9_restore 25 = .ok (.iconst 0, 1) := by decide +kernel
theorem dX9_restore_26 : decode cX9_restore 26 = .ok (.putfield 104, 3) := by decide +kernel
theorem dX9_restore_29 : decode cX9_restore 29 = .ok (.aload_n 0, 1) := by decide +kernel
theorem dX9_restore_30 : decode cX9_restore 30 = .ok (.getfield 91, 3) := by decide +kernel
theorem dX9_restore_33 : decode cX9_restore 33 = .ok (.ireturn, 1) := by decide +kernel
theorem dX9_count_0 : decode cX9_count 0 = .ok (.iload_n 1, 1) := by decide +kernel
theorem dX9_count_1 : decode cX9_count 1 = .ok (.tableswitch 78 0 6 #[43, 48, 53, 58, 63, 68, 73], 43) := by decide +kernel
theorem dX9_count_44 : decode cX9_count 44 = .ok (.aload_n 0, 1) := by decide +kernel
theorem dX9_count_45 : decode cX9_count 45 = .ok (.getfield 88, 3) := by decide +kernel
theorem dX9_count_48 : decode cX9_count 48 = .ok (.ireturn, 1) := by decide +kernel
theorem dX9_count_49 : decode cX9_count 49 = .ok (.aload_n 0, 1) := by decide +kernel
theorem dX9_count_50 : decode cX9_count 50 = .ok (.getfield 91, 3) := by decide +kernel
theorem dX9_count_53 : decode cX9_count 53 = .ok (.ireturn, 1) := by decide +kernel
theorem dX9_count_54 : decode cX9_count 54 = .ok (.aload_n 0, 1) := by decide +kernel
theorem dX9_count_55 : decode cX9_count 55 = .ok (.getfield 15, 3) := by decide +kernel
theorem dX9_count_58 : decode cX9_count 58 = .ok (.ireturn, 1) := by decide +kernel
theorem dX9_count_59 : decode cX9_count 59 = .ok (.aload_n 0, 1) := by decide +kernel
theorem dX9_count_60 : decode cX9_count 60 = .ok (.getfield 94, 3) := by decide +kernel
theorem dX9_count_63 : decode cX9_count 63 = .ok (.ireturn, 1) := by decide +kernel
theorem dX9_count_64 : decode cX9_count 64 = .ok (.aload_n 0, 1) := by decide +kernel
theorem dX9_count_65 : decode cX9_count 65 = .ok (.getfield 101, 3) := by decide +kernel
theorem dX9_count_68 : decode cX9_count 68 = .ok (.ireturn, 1) := by decide +kernel
theorem dX9_count_69 : decode cX9_count 69 = .ok (.aload_n 0, 1) := by decide +kernel
theorem dX9_count_70 : decode cX9_count 70 = .ok (.getfield 104, 3) := by decide +kernel
theorem dX9_count_73 : decode cX9_count 73 = .ok (.ireturn, 1) := by decide +kernel
theorem dX9_count_74 : decode cX9_count 74 = .ok (.aload_n 0, 1) := by decide +kernel
theorem dX9_count_75 : decode cX9_count 75 = .ok (.getfield 258, 3) := by decide +kernel
theorem dX9_count_78 : decode cX9_count 78 = .ok (.ireturn, 1) := by decide +kernel
theorem dX9_count_79 : decode cX9_count 79 = .ok (.iconst (-1), 1) := by decide +kernel
theorem dX9_count_80 : decode cX9_count 80 = .ok (.ireturn, 1) := by decide +kernel
theorem dJ6_bitCount_0f7a4_0 : decode cJ6_bitCount_0f7a4 0 = .ok (.iload_n 0, 1) := by decide +kernel
theorem dJ6_bitCount_0f7a4_1 : decode cJ6_bitCount_0f7a4 1 = .ok (.iload_n 0, 1) := by decide +kernel
theorem dJ6_bitCount_0f7a4_2 : decode cJ6_bitCount_0f7a4 2 = .ok (.iconst 1, 1) := by decide +kernel
theorem dJ6_bitCount_0f7a4_3 : decode cJ6_bitCount_0f7a4 3 = .ok (.iushr, 1) := by decide +kernel
theorem dJ6_bitCount_0f7a4_4 : decode cJ6_bitCount_0f7a4 4 = .ok (.ldc_w 265, 3) := by decide +kernel
theorem dJ6_bitCount_0f7a4_7 : decode cJ6_bitCount_0f7a4 7 = .ok (.iand, 1) := by decide +kernel
theorem dJ6_bitCount_0f7a4_8 : decode cJ6_bitCount_0f7a4 8 = .ok (.isub, 1) := by decide +kernel
theorem dJ6_bitCount_0f7a4_9 : decode cJ6_bitCount_0f7a4 9 = .ok (.istore_n 0, 1) := by decide +kernel
theorem dJ6_bitCount_0f7a4_10 : decode cJ6_bitCount_0f7a4 10 = .ok (.iload_n 0, 1) := by decide +kernel
theorem dJ6_bitCount_0f7a4_11 : decode cJ6_bitCount_0f7a4 11 = .ok (.ldc_w 266, 3) := by decide +kernel
theorem dJ6_bitCount_0f7a4_14 : decode cJ6_bitCount_0f7a4 14 = .ok (.iand, 1) := by decide +kernel
theorem dJ6_bitCount_0f7a4_15 : decode cJ6_bitCount_0f7a4 15 = .ok (.iload_n 0, 1) := by decide +kernel
theorem dJ6_bitCount_0f7a4_16 : decode cJ6_bitCount_0f7a4 16 = .ok (.iconst 2, 1) := by decide +kernel
theorem dJ6_bitCount_0f7a4_17 : decode cJ6_bitCount_0f7a4 17 = .ok (.iushr, 1) := by decide +kernel
theorem dJ6_bitCount_0f7a4_18 : decode cJ6_bitCount_0f7a4 18 = .ok (.ldc_w 266, 3) := by decide +kernel
theorem dJ6_bitCount_0f7a4_21 : decode cJ6_bitCount_0f7a4 21 = .ok (.iand, 1) := by decide +kernel
theorem dJ6_bitCount_0f7a4_22 : decode cJ6_bitCount_0f7a4 22 = .ok (.iadd, 1) := by decide +kernel
theorem dJ6_bitCount_0f7a4_23 : decode cJ6_bitCount_0f7a4 23 = .ok (.istore_n 0, 1) := by decide +kernel
theorem dJ6_bitCount_0f7a4_24 : decode cJ6_bitCount_0f7a4 24 = .ok (.iload_n 0, 1) := by decide +kernel
theorem dJ6_bitCount_0f7a4_25 : decode cJ6_bitCount_0f7a4 25 = .ok (.iload_n 0, 1) := by decide +kernel
theorem dJ6_bitCount_0f7a4_26 : decode cJ6_bitCount_0f7a4 26 = .ok (.iconst 4, 1) := by decide +kernel
theorem dJ6_bitCount_0f7a4_27 : decode cJ6_bitCount_0f7a4 27 = .ok (.iushr, 1) := by decide +kernel
theorem dJ6_bitCount_0f7a4_28 : decode cJ6_bitCount_0f7a4 28 = .ok (.iadd, 1) := by decide +kernel
theorem dJ6_bitCount_0f7a4_29 : decode cJ6_bitCount_0f7a4 29 = .ok (.ldc_w 267, 3) := by decide +kernel
theorem dJ6_bitCount_0f7a4_32 : decode cJ6_bitCount_0f7a4 32 = .ok (.iand, 1) := by decide +kernel
theorem dJ6_bitCount_0f7a4_33 : decode cJ6_bitCount_0f7a4 33 = .ok (.istore_n 0, 1) := by decide +kernel
theorem dJ6_bitCount_0f7a4_34 : decode cJ6_bitCount_0f7a4 34 = .ok (.iload_n 0, 1) := by decide +kernel
theorem dJ6_bitCount_0f7a4_35 : decode cJ6_bitCount_0f7a4 35 = .ok (.iload_n 0, 1) := by decide +kernel
theorem dJ6_bitCount_0f7a4_36 : decode cJ6_bitCount_0f7a4 36 = .ok (.bipush 8, 2) := by decide +kernel
theorem dJ6_bitCount_0f7a4_38 : decode cJ6_bitCount_0f7a4 38 = .ok (.iushr, 1) := by decide +kernel
theorem dJ6_bitCount_0f7a4_39 : decode cJ6_bitCount_0f7a4 39 = .ok (.iadd, 1) := by decide +kernel
theorem dJ6_bitCount_0f7a4_40 : decode cJ6_bitCount_0f7a4 40 = .ok (.istore_n 0, 1) := by decide +kernel
theorem dJ6_bitCount_0f7a4_41 : decode cJ6_bitCount_0f7a4 41 = .ok (.iload_n 0, 1) := by decide +kernel
theorem dJ6_bitCount_0f7a4_42 : decode cJ6_bitCount_0f7a4 42 = .ok (.iload_n 0, 1) := by decide +kernel
theorem dJ6_bitCount_0f7a4_43 : decode cJ6_bitCount_0f7a4 43 = .ok (.bipush 16, 2) := by decide +kernel
theorem dJ6_bitCount_0f7a4_45 : decode cJ6_bitCount_0f7a4 45 = .ok (.iushr, 1) := by decide +kernel
theorem dJ6_bitCount_0f7a4_46 : decode cJ6_bitCount_0f7a4 46 = .ok (.iadd, 1) := by decide +kernel
theorem dJ6_bitCount_0f7a4_47 : decode cJ6_bitCount_0f7a4 47 = .ok (.istore_n 0, 1) := by decide +kernel
theorem dJ6_bitCount_0f7a4_48 : decode cJ6_bitCount_0f7a4 48 = .ok (.iload_n 0, 1) := by decide +kernel
theorem dJ6_bitCount_0f7a4_49 : decode cJ6_bitCount_0f7a4 49 = .ok (.bipush 63, 2) := by decide +kernel
theorem dJ6_bitCount_0f7a4_51 : decode cJ6_bitCount_0f7a4 51 = .ok (.iand, 1) := by decide +kernel
theorem dJ6_bitCount_0f7a4_52 : decode cJ6_bitCount_0f7a4 52 = .ok (.ireturn, 1) := by decide +kernel
theorem dJ13_bitCount_95d88_0 : decode cJ13_bitCount_95d88 0 = .ok (.lload_n 0, 1) := by decide +kernel
theorem dJ13_bitCount_95d88_1 : decode cJ13_bitCount_95d88 1 = .ok (.lload_n 0, 1) := by decide +kernel
theorem dJ13_bitCount_95d88_2 : decode cJ13_bitCount_95d88 2 = .ok (.iconst 1, 1) := by decide +kernel
theorem dJ13_bitCount_95d88_3 : decode cJ13_bitCount_95d88 3 = .ok (.lushr, 1) := by decide +kernel
theorem dJ13_bitCount_95d88_4 : decode cJ13_bitCount_95d88 4 = .ok (.ldc2_w 314, 3) := by decide +kernel
theorem dJ13_bitCount_95d88_7 : decode cJ13_bitCount_95d88 7 = .ok (.land, 1) := by decide +kernel
theorem dJ13_bitCount_95d88_8 : decode cJ13_bitCount_95d88 8 = .ok (.lsub, 1) := by decide +kernel
theorem dJ13_bitCount_95d88_9 : decode cJ13_bitCount_95d88 9 = .ok (.lstore_n 0, 1) := by decide +kernel
theorem dJ13_bitCount_95d88_10 : decode cJ13_bitCount_95d88 10 = .ok (.lload_n 0, 1) := by decide +kernel
theorem dJ13_bitCount_95d88_11 : decode cJ13_bitCount_95d88 11 = .ok (.ldc2_w 316, 3) := by decide +kernel
theorem dJ13_bitCount_95d88_14 : decode cJ13_bitCount_95d88 14 = .ok (.land, 1) := by decide +kernel
theorem dJ13_bitCount_95d88_15 : decode cJ13_bitCount_95d88 15 = .ok (.lload_n 0, 1) := by decide +kernel
theorem dJ13_bitCount_95d88_16 : decode cJ13_bitCount_95d88 16 = .ok (.iconst 2, 1) := by decide +kernel
theorem dJ13_bitCount_95d88_17 : decode cJ13_bitCount_95d88 17 = .ok (.lushr, 1) := by decide +kernel
theorem dJ13_bitCount_95d88_18 : decode cJ13_bitCount_95d88 18 = .ok (.ldc2_w 316, 3) := by decide +kernel
theorem dJ13_bitCount_95d88_21 : decode cJ13_bitCount_95d88 21 = .ok (.land, 1) := by decide +kernel
theorem dJ13_bitCount_95d88_22 : decode cJ13_bitCount_95d88 22 = .ok (.ladd, 1) := by decide +kernel
theorem dJ13_bitCount_95d88_23 : decode cJ13_bitCount_95d88 23 = .ok (.lstore_n 0, 1) := by decide +kernel
theorem dJ13_bitCount_95d88_24 : decode cJ13_bitCount_95d88 24 = .ok (.lload_n 0, 1) := by decide +kernel
theorem dJ13_bitCount_95d88_25 : decode cJ13_bitCount_95d88 25 = .ok (.lload_n 0, 1) := by decide +kernel
theorem dJ13_bitCount_95d88_26 : decode cJ13_bitCount_95d88 26 = .ok (.iconst 4, 1) := by decide +kernel
theorem dJ13_bitCount_95d88_27 : decode cJ13_bitCount_95d88 27 = .ok (.lushr, 1) := by decide +kernel
theorem dJ13_bitCount_95d88_28 : decode cJ13_bitCount_95d88 28 = .ok (.ladd, 1) := by decide +kernel
theorem dJ13_bitCount_95d88_29 : decode cJ13_bitCount_95d88 29 = .ok (.ldc2_w 318, 3) := by decide +kernel
theorem dJ13_bitCount_95d88_32 : decode cJ13_bitCount_95d88 32 = .ok (.land, 1) := by decide +kernel
theorem dJ13_bitCount_95d88_33 : decode cJ13_bitCount_95d88 33 = .ok (.lstore_n 0, 1) := by decide +kernel
theorem dJ13_bitCount_95d88_34 : decode cJ13_bitCount_95d88 34 = .ok (.lload_n 0, 1) := by decide +kernel
theorem dJ13_bitCount_95d88_35 : decode cJ13_bitCount_95d88 35 = .ok (.lload_n 0, 1) := by decide +kernel
theorem dJ13_bitCount_95d88_36 : decode cJ13_bitCount_95d88 36 = .ok (.bipush 8, 2) := by decide +kernel
theorem dJ13_bitCount_95d88_38 : decode cJ13_bitCount_95d88 38 = .ok (.lushr, 1) := by decide +kernel
theorem dJ13_bitCount_95d88_39 : decode cJ13_bitCount_95d88 39 = .ok (.ladd, 1) := by decide +kernel
theorem dJ13_bitCount_95d88_40 : decode cJ13_bitCount_95d88 40 = .ok (.lstore_n 0, 1) := by decide +kernel
theorem dJ13_bitCount_95d88_41 : decode cJ13_bitCount_95d88 41 = .ok (.lload_n 0, 1) := by decide +kernel
theorem dJ13_bitCount_95d88_42 : decode cJ13_bitCount_95d88 42 = .ok (.lload_n 0, 1) := by decide +kernel
theorem dJ13_bitCount_95d88_43 : decode cJ13_bitCount_95d88 43 = .ok (.bipush 16, 2) := by decide +kernel
theorem dJ13_bitCount_95d88_45 : decode cJ13_bitCount_95d88 45 = .ok (.lushr, 1) := by decide +kernel
theorem dJ13_bitCount_95d88_46 : decode cJ13_bitCount_95d88 46 = .ok (.ladd, 1) := by decide +kernel
theorem dJ13_bitCount_95d88_47 : decode cJ13_bitCount_95d88 47 = .ok (.lstore_n 0, 1) := by decide +kernel
theorem dJ13_bitCount_95d88_48 : decode cJ13_bitCount_95d88 48 = .ok (.lload_n 0, 1) := by decide +kernel
theorem dJ13_bitCount_95d88_49 : decode cJ13_bitCount_95d88 49 = .ok (.lload_n 0, 1) := by decide +kernel
theorem dJ13_bitCount_95d88_50 : decode cJ13_bitCount_95d88 50 = .ok (.bipush 32, 2) := by decide +kernel
theorem dJ13_bitCount_95d88_52 : decode cJ13_bitCount_95d88 52 = .ok (.lushr, 1) := by decide +kernel
theorem dJ13_bitCount_95d88_53 : decode cJ13_bitCount_95d88 53 = .ok (.ladd, 1) := by decide +kernel
theorem dJ13_bitCount_95d88_54 : decode cJ13_bitCount_95d88 54 = .ok (.lstore_n 0, 1) := by decide +kernel
theorem dJ13_bitCount_95d88_55 : decode cJ13_bitCount_95d88 55 = .ok (.lload_n 0, 1) := by decide +kernel
theorem dJ13_bitCount_95d88_56 : decode cJ13_bitCount_95d88 56 = .ok (.l2i, 1) := by decide +kernel
theorem dJ13_bitCount_95d88_57 : decode cJ13_bitCount_95d88 57 = .ok (.bipush 127, 2) := by decide +kernel
theorem dJ13_bitCount_95d88_59 : decode cJ13_bitCount_95d88 59 = .ok (.iand, 1) := by decide +kernel
theorem dJ13_bitCount_95d88_60 : decode cJ13_bitCount_95d88 60 = .ok (.ireturn, 1) := by decide +kernel
theorem dJ9_floorMod_f86c9_0 : decode cJ9_floorMod_f86c9 0 = .ok (.lload_n 0, 1) := by decide +kernel
theorem dJ9_floorMod_f86c9_1 : decode cJ9_floorMod_f86c9 1 = .ok (.lload_n 2, 1) := by decide +kernel
theorem dJ9_floorMod_f86c9_2 : decode cJ9_floorMod_f86c9 2 = .ok (.lrem, 1) := by decide +kernel
theorem dJ9_floorMod_f86c9_3 : decode cJ9_floorMod_f86c9 3 = .ok (.lstore 4, 2) := by decide +kernel
theorem dJ9_floorMod_f86c9_5 : decode cJ9_floorMod_f86c9 5 = .ok (.lload_n 0, 1) := by decide +kernel
theorem dJ9_floorMod_f86c9_6 : decode cJ9_floorMod_f86c9 6 = .ok (.lload_n 2, 1) := by decide +kernel
theorem dJ9_floorMod_f86c9_7 : decode cJ9_floorMod_f86c9 7 = .ok (.lxor, 1) := by decide +kernel
theorem dJ9_floorMod_f86c9_8 : decode cJ9_floorMod_f86c9 8 = .ok (.lconst 0, 1) := by decide +kernel
theorem dJ9_floorMod_f86c9_9 : decode cJ9_floorMod_f86c9 9 = .ok (.lcmp, 1) := by decide +kernel
theorem dJ9_floorMod_f86c9_10 : decode cJ9_floorMod_f86c9 10 = .ok (.ifCond .ge 15, 3) := by decide +kernel
theorem dJ9_floorMod_f86c9_13 : decode cJ9_floorMod_f86c9 13 = .ok (.lload 4, 2) := by decide +kernel
theorem dJ9_floorMod_f86c9_15 : decode cJ9_floorMod_f86c9 15 = .ok (.lconst 0, 1) := by decide +kernel
theorem dJ9_floorMod_f86c9_16 : decode cJ9_floorMod_f86c9 16 = .ok (.lcmp, 1) := by decide +kernel
theorem dJ9_floorMod_f86c9_17 : decode cJ9_floorMod_f86c9 17 = .ok (.ifCond .eq 8, 3) := by decide +kernel
theorem dJ9_floorMod_f86c9_20 : decode cJ9_floorMod_f86c9 20 = .ok (.lload 4, 2) := by decide +kernel
theorem dJ9_floorMod_f86c9_22 : decode cJ9_floorMod_f86c9 22 = .ok (.lload_n 2, 1) := by decide +kernel
theorem dJ9_floorMod_f86c9_23 : decode cJ9_floorMod_f86c9 23 = .ok (.ladd, 1) := by decide +kernel
theorem dJ9_floorMod_f86c9_24 : decode cJ9_floorMod_f86c9 24 = .ok (.lreturn, 1) := by decide +kernel
theorem dJ9_floorMod_f86c9_25 : decode cJ9_floorMod_f86c9 25 = .ok (.lload 4, 2) := by decide +kernel
theorem dJ9_floorMod_f86c9_27 : decode cJ9_floorMod_f86c9 27 = .ok (.lreturn, 1) := by decide +kernel
theorem dJ9_abs_067f4_0 : decode cJ9_abs_067f4 0 = .ok (.lload_n 0, 1) := by decide +kernel
theorem dJ9_abs_067f4_1 : decode cJ9_abs_067f4 1 = .ok (.lconst 0, 1) := by decide +kernel
theorem dJ9_abs_067f4_2 : decode cJ9_abs_067f4 2 = .ok (.lcmp, 1) := by decide +kernel
theorem dJ9_abs_067f4_3 : decode cJ9_abs_067f4 3 = .ok (.ifCond .ge 8, 3) := by decide +kernel
theorem dJ9_abs_067f4_6 : decode cJ9_abs_067f4 6 = .ok (.lload_n 0, 1) := by decide +kernel
theorem dJ9_abs_067f4_7 : decode cJ9_abs_067f4 7 = .ok (.lneg, 1) := by decide +kernel
theorem dJ9_abs_067f4_8 : decode cJ9_abs_067f4 8 = .ok (.goto 4, 3) := by decide +kernel
theorem dJ9_abs_067f4_11 : decode cJ9_abs_067f4 11 = .ok (.lload_n 0, 1) := by decide +kernel
theorem dJ9_abs_067f4_12 : decode cJ9_abs_067f4 12 = .ok (.lreturn, 1) := by decide +kernel
set_option maxRecDepth 20000 in
theorem ggL_law_X8_init : GoodIn wsL_law wsX8_init := goodIn_r _ [8, 9, 10, 11, 12, 13, 14, 15, 16, 17, 18, 19, 20, 21, 22, 23, 24, 25, 26, 27, 28, 29, 30, 31, 32, 33, 34, 35, 36, 37, 38, 39, 40, 41, 42, 43, 44, 45, 46, 47, 48, 49, 50, 51, 52, 53, 54, 55, 56, 57, 58, 59, 60, 61, 62, 63, 64, 65, 66, 67, 68, 69, 70, 71, 72, 73, 74, 75, 76, 77, 78, 79, 80, 81, 82, 83, 84, 85, 86, 87, 1171, 1172, 1173, 1174, 1175, 1120, 1121, 1122, 1123, 1124, 1125, 1126, 1127, 1128, 1176, 1177, 1178, 1179, 1180, 1181, 1182, 1183, 1184, 1185, 1186, 1187, 1188, 1189, 1190, 1191, 1192, 1193, 1194, 1195, 1196, 1197, 1198, 1199, 1200, 1201] (by decide +kernel) (by decide +kernel)
set_option maxRecDepth 20000 in
theorem gL_law_X8_init : GoodIn wsL_law (wsX8_init) := ggL_law_X8_init
set_option maxRecDepth 20000 in
theorem ggL_law_X9_init : GoodIn wsL_law wsX9_init := goodIn_r _ [90, 91, 10, 11, 43, 92, 93, 94, 95, 96, 97, 98, 99, 100, 101, 102, 103, 104, 105, 106, 107, 108, 109, 110, 57, 111, 112, 113, 114, 115, 1129, 1130, 1131, 1132, 1133, 1134, 1135, 1136, 1137, 1138, 1139, 1140, 1141, 1142, 1143, 1144, 1145, 1146, 1147, 1148, 1149, 1150, 1151, 1152, 1153, 1154, 1155, 1156, 1157, 1158, 1159, 1160, 1161, 1162, 1163, 1164, 1165, 1166, 1167, 1168, 1169, 1170] (by decide +kernel) (by decide +kernel)
set_option maxRecDepth 20000 in
theorem gL_law_X9_init : GoodIn wsL_law (wsX9_init) := ggL_law_X9_init
set_option maxRecDepth 20000 in
theorem ggL_law_X8_genus : GoodIn wsL_law wsX8_genus := goodIn_r _ [119, 15, 120, 20, 121, 122, 123, 19, 124, 125, 126, 127, 128, 129, 130, 51, 131, 132, 133, 14, 134, 135, 45, 136, 137, 138, 139, 140, 141, 142, 143, 144, 145, 44, 146, 147, 148, 149, 150, 151, 152, 153, 1120, 1121, 1122, 1123, 1124, 1125, 1126, 1127, 1128, 1171, 1172, 1173, 1174, 1175, 1176, 1177, 1178] (by decide +kernel) (by decide +kernel)
set_option maxRecDepth 20000 in
theorem gL_law_X8_genus : GoodIn wsL_law (wsV RL 13 RX8 yX8_genus wsX8_genus) := goodIn_app (goodIn_of _ (by decide +kernel)) ggL_law_X8_genus
set_option maxRecDepth 20000 in
theorem ggL_law_X9_genus : GoodIn wsL_law wsX9_genus := goodIn_r _ [157, 158, 159, 160, 161, 5, 162, 163, 164, 165, 166, 97, 167, 168, 169, 170, 171, 93, 172, 92, 94, 173, 174, 175, 176, 96, 177, 95, 178, 1129, 1130, 1131, 1132, 1133, 1134, 1135, 1136, 1137, 1138, 1139, 1140, 1141, 1142, 1143, 1144, 1145, 1146, 1147, 1148, 1149, 1150, 1151, 1152, 1153, 1154, 1155, 1156, 1157, 1158, 1159, 1160, 1161, 1162, 1163, 1164, 1165, 1166, 1167, 1168, 1169, 1170] (by decide +kernel) (by decide +kernel)
set_option maxRecDepth 20000 in
theorem gL_law_X9_genus : GoodIn wsL_law (wsV RL 17 RX9 yX9_genus wsX9_genus) := goodIn_app (goodIn_of _ (by decide +kernel)) ggL_law_X9_genus
set_option maxRecDepth 20000 in
theorem ggL_law_X8_mark : GoodIn wsL_law wsX8_mark := goodIn_r _ [182, 15, 183, 20, 184, 185, 2, 186, 187, 188, 189, 14, 190, 137, 191, 192, 193, 194, 44, 121, 122, 123, 19, 124, 125, 126, 127, 128, 129, 130, 51, 131, 132, 133, 134, 135, 45, 136, 138, 139, 140, 141, 142, 143, 144, 145, 146, 147, 148, 149, 150, 151, 152, 153, 1120, 1121, 1122, 1123, 1124, 1125, 1126, 1127, 1128, 1171, 1172, 1173, 1174, 1175, 1176, 1177, 1178] (by decide +kernel) (by decide +kernel)
set_option maxRecDepth 20000 in
theorem gL_law_X8_mark : GoodIn wsL_law (wsV RL 18 RX8 yX8_mark wsX8_mark) := goodIn_app (goodIn_of _ (by decide +kernel)) ggL_law_X8_mark
set_option maxRecDepth 20000 in
theorem ggL_law_X9_mark : GoodIn wsL_law wsX9_mark := goodIn_r _ [198, 199, 171, 92, 160, 161, 5, 162, 163, 164, 165, 166, 97, 167, 168, 169, 170, 159, 93, 172, 94, 173, 174, 175, 176, 96, 177, 95, 178, 1129, 1130, 1131, 1132, 1133, 1134, 1135, 1136, 1137, 1138, 1139, 1140, 1141, 1142, 1143, 1144, 1145, 1146, 1147, 1148, 1149, 1150, 1151, 1152, 1153, 1154, 1155, 1156, 1157, 1158, 1159, 1160, 1161, 1162, 1163, 1164, 1165, 1166, 1167, 1168, 1169, 1170] (by decide +kernel) (by decide +kernel)
set_option maxRecDepth 20000 in
theorem gL_law_X9_mark : GoodIn wsL_law (wsV RL 21 RX9 yX9_mark wsX9_mark) := goodIn_app (goodIn_of _ (by decide +kernel)) ggL_law_X9_mark
set_option maxRecDepth 20000 in
theorem ggL_law_X8_take : GoodIn wsL_law wsX8_take := goodIn_r _ [203, 15, 20, 183, 204, 205, 206, 14, 207, 137, 208, 209, 210, 211, 142, 143, 144, 145, 44, 191, 192, 193, 194, 121, 122, 123, 19, 124, 125, 126, 127, 128, 129, 130, 51, 131, 132, 133, 134, 135, 45, 136, 138, 139, 140, 141, 146, 147, 148, 149, 150, 151, 152, 153, 1120, 1121, 1122, 1123, 1124, 1125, 1126, 1127, 1128, 1171, 1172, 1173, 1174, 1175, 1176, 1177, 1178] (by decide +kernel) (by decide +kernel)
set_option maxRecDepth 20000 in
theorem gL_law_X8_take : GoodIn wsL_law (wsV RL 22 RX8 yX8_take wsX8_take) := goodIn_app (goodIn_of _ (by decide +kernel)) ggL_law_X8_take
set_option maxRecDepth 20000 in
theorem ggL_law_X9_take : GoodIn wsL_law wsX9_take := goodIn_r _ [215, 171, 92, 216, 217, 218, 5, 219, 160, 161, 162, 163, 164, 165, 166, 97, 167, 168, 169, 170, 159, 93, 172, 94, 173, 174, 175, 176, 96, 177, 95, 178, 1129, 1130, 1131, 1132, 1133, 1134, 1135, 1136, 1137, 1138, 1139, 1140, 1141, 1142, 1143, 1144, 1145, 1146, 1147, 1148, 1149, 1150, 1151, 1152, 1153, 1154, 1155, 1156, 1157, 1158, 1159, 1160, 1161, 1162, 1163, 1164, 1165, 1166, 1167, 1168, 1169, 1170] (by decide +kernel) (by decide +kernel)
set_option maxRecDepth 20000 in
theorem gL_law_X9_take : GoodIn wsL_law (wsV RL 25 RX9 yX9_take wsX9_take) := goodIn_app (goodIn_of _ (by decide +kernel)) ggL_law_X9_take
set_option maxRecDepth 20000 in
theorem ggL_law_X8_change : GoodIn wsL_law wsX8_change := goodIn_r _ [223, 15, 20, 204, 205, 206, 14, 207, 137, 184, 185, 2, 186, 224, 143, 144, 145, 44, 225, 192, 193, 194, 121, 122, 123, 19, 124, 125, 126, 127, 128, 129, 130, 51, 131, 132, 133, 134, 135, 45, 136, 138, 139, 140, 141, 142, 146, 147, 148, 149, 150, 151, 152, 153, 1120, 1121, 1122, 1123, 1124, 1125, 1126, 1127, 1128, 1171, 1172, 1173, 1174, 1175, 1176, 1177, 1178] (by decide +kernel) (by decide +kernel)
set_option maxRecDepth 20000 in
theorem gL_law_X8_change : GoodIn wsL_law (wsV RL 26 RX8 yX8_change wsX8_change) := goodIn_app (goodIn_of _ (by decide +kernel)) ggL_law_X8_change
set_option maxRecDepth 20000 in
theorem ggL_law_X9_change : GoodIn wsL_law wsX9_change := goodIn_r _ [229, 199, 92, 216, 217, 218, 5, 219, 171, 160, 161, 162, 163, 164, 165, 166, 97, 167, 168, 169, 170, 159, 93, 172, 94, 173, 174, 175, 176, 96, 177, 95, 178, 1129, 1130, 1131, 1132, 1133, 1134, 1135, 1136, 1137, 1138, 1139, 1140, 1141, 1142, 1143, 1144, 1145, 1146, 1147, 1148, 1149, 1150, 1151, 1152, 1153, 1154, 1155, 1156, 1157, 1158, 1159, 1160, 1161, 1162, 1163, 1164, 1165, 1166, 1167, 1168, 1169, 1170] (by decide +kernel) (by decide +kernel)
set_option maxRecDepth 20000 in
theorem gL_law_X9_change : GoodIn wsL_law (wsV RL 30 RX9 yX9_change wsX9_change) := goodIn_app (goodIn_of _ (by decide +kernel)) ggL_law_X9_change
set_option maxRecDepth 20000 in
theorem ggL_law_X8_order : GoodIn wsL_law wsX8_order := goodIn_r _ [233, 15, 20, 234, 235, 236, 14, 237, 137, 142, 143, 144, 145, 44, 238, 239, 240, 241, 191, 192, 193, 194, 242, 243, 244, 245, 246, 247, 248, 249, 250, 128, 129, 19, 130, 125, 51, 251, 139, 140, 141, 121, 122, 123, 124, 126, 127, 131, 132, 133, 134, 135, 45, 136, 138, 146, 147, 148, 149, 150, 151, 152, 153, 1120, 1121, 1122, 1123, 1124, 1125, 1126, 1127, 1128, 1171, 1172, 1173, 1174, 1175, 1176, 1177, 1178] (by decide +kernel) (by decide +kernel)
set_option maxRecDepth 20000 in
theorem gL_law_X8_order : GoodIn wsL_law (wsV RL 31 RX8 yX8_order wsX8_order) := goodIn_app (goodIn_of _ (by decide +kernel)) ggL_law_X8_order
set_option maxRecDepth 20000 in
theorem ggL_law_X9_order : GoodIn wsL_law wsX9_order := goodIn_r _ [255, 256, 92, 171, 97, 160, 161, 5, 162, 163, 164, 165, 166, 167, 168, 169, 170, 159, 93, 172, 94, 257, 258, 259, 173, 174, 175, 176, 96, 177, 95, 178, 1129, 1130, 1131, 1132, 1133, 1134, 1135, 1136, 1137, 1138, 1139, 1140, 1141, 1142, 1143, 1144, 1145, 1146, 1147, 1148, 1149, 1150, 1151, 1152, 1153, 1154, 1155, 1156, 1157, 1158, 1159, 1160, 1161, 1162, 1163, 1164, 1165, 1166, 1167, 1168, 1169, 1170] (by decide +kernel) (by decide +kernel)
set_option maxRecDepth 20000 in
theorem gL_law_X9_order : GoodIn wsL_law (wsV RL 34 RX9 yX9_order wsX9_order) := goodIn_app (goodIn_of _ (by decide +kernel)) ggL_law_X9_order
set_option maxRecDepth 20000 in
theorem ggL_law_X8_of : GoodIn wsL_law wsX8_of := goodIn_r _ [263, 15, 204, 205, 206, 14, 207, 137, 224, 143, 144, 145, 44, 1120, 1121, 1122, 1123, 1124, 1125, 1126, 1127, 1128, 1171, 1172, 1173, 1174, 1175] (by decide +kernel) (by decide +kernel)
set_option maxRecDepth 20000 in
theorem gL_law_X8_of : GoodIn wsL_law (wsV RL 35 RX8 yX8_of wsX8_of) := goodIn_app (goodIn_of _ (by decide +kernel)) ggL_law_X8_of
set_option maxRecDepth 20000 in
theorem ggL_law_X9_of : GoodIn wsL_law wsX9_of := goodIn_r _ [267, 92, 216, 217, 218, 5, 219, 171, 160, 161, 162, 1129, 1130, 1131, 1132, 1133, 1134, 1135, 1136, 1137, 1138, 1139, 1140, 1141, 1142, 1143, 1144, 1145, 1146, 1147, 1148, 1149, 1150, 1151, 1152, 1153, 1154, 1155, 1156, 1157, 1158, 1159, 1160, 1161, 1162, 1163, 1164, 1165, 1166, 1167, 1168, 1169, 1170] (by decide +kernel) (by decide +kernel)
set_option maxRecDepth 20000 in
theorem gL_law_X9_of : GoodIn wsL_law (wsV RL 38 RX9 yX9_of wsX9_of) := goodIn_app (goodIn_of _ (by decide +kernel)) ggL_law_X9_of
set_option maxRecDepth 20000 in
theorem ggL_law_X8_number : GoodIn wsL_law wsX8_number := goodIn_r _ [271, 272, 15, 120, 273, 274, 2, 275, 276, 277, 278, 279, 24, 280, 281, 282, 283, 183, 284, 285, 286, 23, 287, 288, 289, 290, 224, 143, 144, 14, 145, 44, 291, 292, 293, 294, 295, 296, 297, 298, 299, 300, 301, 302, 303, 304, 305, 306, 58, 59, 307, 308, 309, 310, 311, 312, 313, 314, 315, 316, 317, 318, 319, 320, 321, 322, 323, 324, 325, 326, 327, 328, 329, 330, 331, 332, 333, 334, 335, 336, 337, 338, 339, 340, 341, 342, 343, 344, 345, 346, 347, 348, 349, 350, 351, 352, 353, 354, 355, 1120, 1121, 1122, 1123, 1124, 1125, 1126, 1127, 1128, 1171, 1172, 1173, 1174, 1175, 1179, 1180, 1181, 1182, 1183, 1184, 1185] (by decide +kernel) (by decide +kernel)
set_option maxRecDepth 20000 in
theorem gL_law_X8_number : GoodIn wsL_law (wsV RL 39 RX8 yX8_number wsX8_number) := goodIn_app (goodIn_of _ (by decide +kernel)) ggL_law_X8_number
set_option maxRecDepth 20000 in
theorem ggL_law_X9_number : GoodIn wsL_law wsX9_number := goodIn_r _ [359, 159, 360, 160, 161, 5, 162, 361, 362, 363, 364, 171, 98, 92, 365, 366, 367, 368, 369, 370, 371, 372, 373, 374, 375, 158, 376, 377, 378, 379, 380, 381, 382, 383, 384, 385, 386, 387, 388, 389, 390, 391, 392, 393, 394, 395, 396, 397, 398, 399, 1129, 1130, 1131, 1132, 1133, 1134, 1135, 1136, 1137, 1138, 1139, 1140, 1141, 1142, 1143, 1144, 1145, 1146, 1147, 1148, 1149, 1150, 1151, 1152, 1153, 1154, 1155, 1156, 1157, 1158, 1159, 1160, 1161, 1162, 1163, 1164, 1165, 1166, 1167, 1168, 1169, 1170] (by decide +kernel) (by decide +kernel)
set_option maxRecDepth 20000 in
theorem gL_law_X9_number : GoodIn wsL_law (wsV RL 43 RX9 yX9_number wsX9_number) := goodIn_app (goodIn_of _ (by decide +kernel)) ggL_law_X9_number
set_option maxRecDepth 20000 in
theorem ggL_law_X8_rule : GoodIn wsL_law wsX8_rule := goodIn_r _ [403, 280, 281, 282, 2, 283, 24, 15, 183, 120, 284, 285, 286, 23, 287, 288, 289, 290, 224, 143, 144, 14, 145, 44, 291, 292, 293, 294, 295, 296, 297, 298, 404, 313, 314, 315, 316, 317, 318, 319, 320, 321, 322, 323, 324, 325, 326, 327, 328, 329, 1120, 1121, 1122, 1123, 1124, 1125, 1126, 1127, 1128, 1171, 1172, 1173, 1174, 1175, 1179, 1180, 1181, 1182, 1183, 1184, 1185] (by decide +kernel) (by decide +kernel)
set_option maxRecDepth 20000 in
theorem gL_law_X8_rule : GoodIn wsL_law (wsV RL 44 RX8 yX8_rule wsX8_rule) := goodIn_app (goodIn_of _ (by decide +kernel)) ggL_law_X8_rule
set_option maxRecDepth 20000 in
theorem ggL_law_X9_rule : GoodIn wsL_law wsX9_rule := goodIn_r _ [408, 409, 410, 411, 5, 412, 171, 98, 92, 159, 369, 370, 371, 376, 377, 378, 379, 380, 381, 382, 383, 384, 385, 1129, 1130, 1131, 1132, 1133, 1134, 1135, 1136, 1137, 1138, 1139, 1140, 1141, 1142, 1143, 1144, 1145, 1146, 1147, 1148, 1149, 1150, 1151, 1152, 1153, 1154, 1155, 1156, 1157, 1158, 1159, 1160, 1161, 1162, 1163, 1164, 1165, 1166, 1167, 1168, 1169, 1170] (by decide +kernel) (by decide +kernel)
set_option maxRecDepth 20000 in
theorem gL_law_X9_rule : GoodIn wsL_law (wsV RL 48 RX9 yX9_rule wsX9_rule) := goodIn_app (goodIn_of _ (by decide +kernel)) ggL_law_X9_rule
set_option maxRecDepth 20000 in
theorem ggL_law_X8_met : GoodIn wsL_law wsX8_met := goodIn_r _ [416, 24, 280, 281, 282, 2, 283, 15, 183, 120, 284, 285, 286, 23, 287, 288, 289, 290, 224, 143, 144, 14, 145, 44, 291, 292, 293, 294, 295, 296, 297, 298, 417, 418, 419, 420, 421, 303, 304, 305, 306, 58, 59, 307, 308, 309, 310, 311, 312, 313, 314, 315, 316, 317, 318, 319, 320, 321, 322, 323, 324, 325, 326, 327, 328, 329, 330, 331, 332, 333, 334, 335, 336, 337, 338, 339, 340, 422, 423, 424, 425, 60, 1120, 1121, 1122, 1123, 1124, 1125, 1126, 1127, 1128, 1171, 1172, 1173, 1174, 1175, 1179, 1180, 1181, 1182, 1183, 1184, 1185] (by decide +kernel) (by decide +kernel)
set_option maxRecDepth 20000 in
theorem gL_law_X8_met : GoodIn wsL_law (wsV RL 49 RX8 yX8_met wsX8_met) := goodIn_app (goodIn_of _ (by decide +kernel)) ggL_law_X8_met
set_option maxRecDepth 20000 in
theorem ggL_law_X9_met : GoodIn wsL_law wsX9_met := goodIn_r _ [429, 430, 171, 100, 92, 101, 159, 409, 410, 411, 5, 412, 98, 369, 370, 371, 376, 377, 378, 379, 380, 381, 382, 383, 384, 385, 431, 432, 433, 434, 386, 387, 388, 1129, 1130, 1131, 1132, 1133, 1134, 1135, 1136, 1137, 1138, 1139, 1140, 1141, 1142, 1143, 1144, 1145, 1146, 1147, 1148, 1149, 1150, 1151, 1152, 1153, 1154, 1155, 1156, 1157, 1158, 1159, 1160, 1161, 1162, 1163, 1164, 1165, 1166, 1167, 1168, 1169, 1170] (by decide +kernel) (by decide +kernel)
set_option maxRecDepth 20000 in
theorem gL_law_X9_met : GoodIn wsL_law (wsV RL 52 RX9 yX9_met wsX9_met) := goodIn_app (goodIn_of _ (by decide +kernel)) ggL_law_X9_met
set_option maxRecDepth 20000 in
theorem ggL_law_X8_kappa : GoodIn wsL_law wsX8_kappa := goodIn_r _ [438, 272, 15, 120, 439, 440, 2, 441, 273, 274, 275, 442, 443, 444, 445, 446, 276, 277, 278, 279, 24, 280, 281, 282, 283, 183, 284, 285, 286, 23, 287, 288, 289, 290, 224, 143, 144, 14, 145, 44, 291, 292, 293, 294, 295, 296, 297, 298, 299, 300, 301, 302, 303, 304, 305, 306, 58, 59, 307, 308, 309, 310, 311, 312, 313, 314, 315, 316, 317, 318, 319, 320, 321, 322, 323, 324, 325, 326, 327, 328, 329, 330, 331, 332, 333, 334, 335, 336, 337, 338, 339, 340, 447, 448, 449, 450, 341, 342, 343, 344, 345, 346, 347, 348, 349, 350, 351, 352, 353, 354, 355, 1120, 1121, 1122, 1123, 1124, 1125, 1126, 1127, 1128, 1171, 1172, 1173, 1174, 1175, 1179, 1180, 1181, 1182, 1183, 1184, 1185] (by decide +kernel) (by decide +kernel)
set_option maxRecDepth 20000 in
theorem gL_law_X8_kappa : GoodIn wsL_law (wsV RL 53 RX8 yX8_kappa wsX8_kappa) := goodIn_app (goodIn_of _ (by decide +kernel)) ggL_law_X8_kappa
set_option maxRecDepth 20000 in
theorem ggL_law_X9_kappa : GoodIn wsL_law wsX9_kappa := goodIn_r _ [454, 379, 455, 360, 158, 159, 160, 161, 5, 162, 361, 362, 363, 364, 171, 98, 92, 365, 366, 367, 368, 369, 370, 371, 372, 373, 374, 375, 376, 377, 378, 380, 381, 382, 383, 384, 385, 386, 387, 388, 456, 457, 458, 459, 460, 461, 462, 463, 464, 465, 466, 467, 389, 390, 391, 392, 393, 394, 395, 396, 397, 398, 399, 1129, 1130, 1131, 1132, 1133, 1134, 1135, 1136, 1137, 1138, 1139, 1140, 1141, 1142, 1143, 1144, 1145, 1146, 1147, 1148, 1149, 1150, 1151, 1152, 1153, 1154, 1155, 1156, 1157, 1158, 1159, 1160, 1161, 1162, 1163, 1164, 1165, 1166, 1167, 1168, 1169, 1170] (by decide +kernel) (by decide +kernel)
set_option maxRecDepth 20000 in
theorem gL_law_X9_kappa : GoodIn wsL_law (wsV RL 57 RX9 yX9_kappa wsX9_kappa) := goodIn_app (goodIn_of _ (by decide +kernel)) ggL_law_X9_kappa
set_option maxRecDepth 20000 in
theorem ggL_law_X8_leaves : GoodIn wsL_law wsX8_leaves := goodIn_r _ [471, 15, 472, 473, 20, 474, 475, 476, 477, 121, 122, 123, 19, 124, 125, 126, 127, 128, 129, 130, 51, 131, 132, 133, 14, 134, 135, 45, 136, 137, 138, 139, 140, 141, 142, 143, 144, 145, 44, 146, 147, 148, 149, 150, 151, 152, 153, 1120, 1121, 1122, 1123, 1124, 1125, 1126, 1127, 1128, 1171, 1172, 1173, 1174, 1175, 1176, 1177, 1178] (by decide +kernel) (by decide +kernel)
set_option maxRecDepth 20000 in
theorem gL_law_X8_leaves : GoodIn wsL_law (wsV RL 58 RX8 yX8_leaves wsX8_leaves) := goodIn_app (goodIn_of _ (by decide +kernel)) ggL_law_X8_leaves
set_option maxRecDepth 20000 in
theorem ggL_law_X9_leaves_ : GoodIn wsL_law wsX9_leaves_ := goodIn_r _ [481, 256, 482, 93, 172, 160, 161, 5, 162, 163, 164, 165, 166, 97, 167, 168, 169, 170, 159, 171, 92, 94, 173, 174, 175, 176, 96, 177, 95, 178, 1129, 1130, 1131, 1132, 1133, 1134, 1135, 1136, 1137, 1138, 1139, 1140, 1141, 1142, 1143, 1144, 1145, 1146, 1147, 1148, 1149, 1150, 1151, 1152, 1153, 1154, 1155, 1156, 1157, 1158, 1159, 1160, 1161, 1162, 1163, 1164, 1165, 1166, 1167, 1168, 1169, 1170] (by decide +kernel) (by decide +kernel)
set_option maxRecDepth 20000 in
theorem gL_law_X9_leaves_ : GoodIn wsL_law (wsV RL 61 RX9 yX9_leaves_ wsX9_leaves_) := goodIn_app (goodIn_of _ (by decide +kernel)) ggL_law_X9_leaves_
set_option maxRecDepth 20000 in
theorem ggL_law_X8_split : GoodIn wsL_law wsX8_split := goodIn_r _ [486, 15, 472, 473, 20, 487, 488, 476, 489, 490, 475, 477, 491, 492, 493, 494, 495, 496, 497, 498, 499, 500, 501, 502, 503, 504, 505, 506, 507, 508, 509, 510, 511, 512, 513, 514, 515, 516, 517, 518, 519, 520, 521, 522, 121, 122, 123, 19, 124, 125, 126, 127, 128, 129, 130, 51, 131, 132, 133, 14, 134, 135, 45, 136, 137, 138, 139, 140, 141, 142, 143, 144, 145, 44, 146, 147, 148, 149, 150, 151, 152, 153, 523, 1120, 1121, 1122, 1123, 1124, 1125, 1126, 1127, 1128, 1171, 1172, 1173, 1174, 1175, 1176, 1177, 1178] (by decide +kernel) (by decide +kernel)
set_option maxRecDepth 20000 in
theorem gL_law_X8_split : GoodIn wsL_law (wsV RL 62 RX8 yX8_split wsX8_split) := goodIn_app (goodIn_of _ (by decide +kernel)) ggL_law_X8_split
set_option maxRecDepth 20000 in
theorem ggL_law_X9_split : GoodIn wsL_law wsX9_split := goodIn_r _ [527, 93, 172, 528, 529, 5, 530, 158, 160, 161, 162, 531, 532, 533, 534, 535, 536, 537, 94, 538, 539, 540, 163, 164, 165, 166, 97, 167, 168, 169, 170, 159, 171, 92, 541, 542, 543, 544, 257, 258, 259, 173, 174, 175, 176, 96, 177, 95, 178, 1129, 1130, 1131, 1132, 1133, 1134, 1135, 1136, 1137, 1138, 1139, 1140, 1141, 1142, 1143, 1144, 1145, 1146, 1147, 1148, 1149, 1150, 1151, 1152, 1153, 1154, 1155, 1156, 1157, 1158, 1159, 1160, 1161, 1162, 1163, 1164, 1165, 1166, 1167, 1168, 1169, 1170] (by decide +kernel) (by decide +kernel)
set_option maxRecDepth 20000 in
theorem gL_law_X9_split : GoodIn wsL_law (wsV RL 65 RX9 yX9_split wsX9_split) := goodIn_app (goodIn_of _ (by decide +kernel)) ggL_law_X9_split
set_option maxRecDepth 20000 in
theorem ggL_law_X8_join : GoodIn wsL_law wsX8_join := goodIn_r _ [548, 15, 472, 473, 20, 487, 488, 476, 489, 490, 475, 477, 491, 492, 493, 494, 495, 496, 497, 549, 550, 551, 552, 553, 554, 555, 121, 122, 123, 19, 124, 125, 126, 127, 128, 129, 130, 51, 131, 132, 133, 14, 134, 135, 45, 136, 137, 138, 139, 140, 141, 142, 143, 144, 145, 44, 146, 147, 148, 149, 150, 151, 152, 153, 523, 502, 503, 504, 505, 506, 507, 508, 509, 510, 1120, 1121, 1122, 1123, 1124, 1125, 1126, 1127, 1128, 1171, 1172, 1173, 1174, 1175, 1176, 1177, 1178] (by decide +kernel) (by decide +kernel)
set_option maxRecDepth 20000 in
theorem gL_law_X8_join : GoodIn wsL_law (wsV RL 66 RX8 yX8_join wsX8_join) := goodIn_app (goodIn_of _ (by decide +kernel)) ggL_law_X8_join
set_option maxRecDepth 20000 in
theorem ggL_law_X9_join : GoodIn wsL_law wsX9_join := goodIn_r _ [559, 93, 172, 94, 528, 529, 5, 530, 158, 160, 161, 162, 531, 532, 533, 560, 561, 562, 563, 163, 164, 165, 166, 97, 167, 168, 169, 170, 159, 171, 92, 173, 174, 175, 176, 96, 177, 95, 178, 1129, 1130, 1131, 1132, 1133, 1134, 1135, 1136, 1137, 1138, 1139, 1140, 1141, 1142, 1143, 1144, 1145, 1146, 1147, 1148, 1149, 1150, 1151, 1152, 1153, 1154, 1155, 1156, 1157, 1158, 1159, 1160, 1161, 1162, 1163, 1164, 1165, 1166, 1167, 1168, 1169, 1170] (by decide +kernel) (by decide +kernel)
set_option maxRecDepth 20000 in
theorem gL_law_X9_join : GoodIn wsL_law (wsV RL 69 RX9 yX9_join wsX9_join) := goodIn_app (goodIn_of _ (by decide +kernel)) ggL_law_X9_join
set_option maxRecDepth 20000 in
theorem ggL_law_X8_splitAt : GoodIn wsL_law wsX8_splitAt := goodIn_r _ [567, 15, 473, 568, 512, 476, 513, 504, 505, 506, 507, 508, 509, 510, 1120, 1121, 1122, 1123, 1124, 1125, 1126, 1127, 1128, 1171, 1172, 1173, 1174, 1175] (by decide +kernel) (by decide +kernel)
set_option maxRecDepth 20000 in
theorem gL_law_X8_splitAt : GoodIn wsL_law (wsV RL 70 RX8 yX8_splitAt wsX8_splitAt) := goodIn_app (goodIn_of _ (by decide +kernel)) ggL_law_X8_splitAt
set_option maxRecDepth 20000 in
theorem ggL_law_X9_splitAt : GoodIn wsL_law wsX9_splitAt := goodIn_r _ [572, 172, 94, 1129, 1130, 1131, 1132, 1133, 1134, 1135, 1136, 1137, 1138, 1139, 1140, 1141, 1142, 1143, 1144, 1145, 1146, 1147, 1148, 1149, 1150, 1151, 1152, 1153, 1154, 1155, 1156, 1157, 1158, 1159, 1160, 1161, 1162, 1163, 1164, 1165, 1166, 1167, 1168, 1169, 1170] (by decide +kernel) (by decide +kernel)
set_option maxRecDepth 20000 in
theorem gL_law_X9_splitAt : GoodIn wsL_law (wsV RL 73 RX9 yX9_splitAt wsX9_splitAt) := goodIn_app (goodIn_of _ (by decide +kernel)) ggL_law_X9_splitAt
set_option maxRecDepth 20000 in
theorem ggL_law_X8_may : GoodIn wsL_law wsX8_may := goodIn_r _ [576, 15, 472, 473, 487, 488, 476, 489, 490, 475, 477, 491, 492, 493, 494, 495, 496, 497, 498, 499, 500, 501, 502, 503, 504, 505, 506, 507, 508, 509, 510, 511, 512, 513, 514, 515, 516, 517, 518, 519, 1120, 1121, 1122, 1123, 1124, 1125, 1126, 1127, 1128, 1171, 1172, 1173, 1174, 1175] (by decide +kernel) (by decide +kernel)
set_option maxRecDepth 20000 in
theorem gL_law_X8_may : GoodIn wsL_law (wsV RL 74 RX8 yX8_may wsX8_may) := goodIn_app (goodIn_of _ (by decide +kernel)) ggL_law_X8_may
set_option maxRecDepth 20000 in
theorem ggL_law_X9_may : GoodIn wsL_law wsX9_may := goodIn_r _ [580, 93, 528, 529, 5, 530, 158, 160, 161, 162, 531, 532, 533, 534, 535, 536, 537, 172, 94, 538, 539, 540, 1129, 1130, 1131, 1132, 1133, 1134, 1135, 1136, 1137, 1138, 1139, 1140, 1141, 1142, 1143, 1144, 1145, 1146, 1147, 1148, 1149, 1150, 1151, 1152, 1153, 1154, 1155, 1156, 1157, 1158, 1159, 1160, 1161, 1162, 1163, 1164, 1165, 1166, 1167, 1168, 1169, 1170] (by decide +kernel) (by decide +kernel)
set_option maxRecDepth 20000 in
theorem gL_law_X9_may : GoodIn wsL_law (wsV RL 77 RX9 yX9_may wsX9_may) := goodIn_app (goodIn_of _ (by decide +kernel)) ggL_law_X9_may
set_option maxRecDepth 20000 in
theorem ggL_law_X8_valence : GoodIn wsL_law wsX8_valence := goodIn_r _ [584, 15, 472, 473, 487, 488, 476, 489, 490, 475, 477, 491, 492, 493, 494, 495, 496, 497, 549, 550, 551, 585, 586, 587, 588, 589, 590, 591, 592, 593, 501, 502, 503, 504, 505, 506, 507, 508, 509, 510, 511, 512, 513, 517, 518, 519, 594, 521, 522, 595, 596, 597, 598, 599, 600, 601, 1120, 1121, 1122, 1123, 1124, 1125, 1126, 1127, 1128, 1171, 1172, 1173, 1174, 1175] (by decide +kernel) (by decide +kernel)
set_option maxRecDepth 20000 in
theorem gL_law_X8_valence : GoodIn wsL_law (wsV RL 78 RX8 yX8_valence wsX8_valence) := goodIn_app (goodIn_of _ (by decide +kernel)) ggL_law_X8_valence
set_option maxRecDepth 20000 in
theorem ggL_law_X9_valence : GoodIn wsL_law wsX9_valence := goodIn_r _ [605, 93, 528, 529, 5, 530, 158, 160, 161, 162, 531, 532, 533, 560, 561, 562, 563, 172, 94, 606, 607, 608, 609, 610, 611, 612, 613, 614, 615, 616, 617, 618, 619, 620, 621, 1129, 1130, 1131, 1132, 1133, 1134, 1135, 1136, 1137, 1138, 1139, 1140, 1141, 1142, 1143, 1144, 1145, 1146, 1147, 1148, 1149, 1150, 1151, 1152, 1153, 1154, 1155, 1156, 1157, 1158, 1159, 1160, 1161, 1162, 1163, 1164, 1165, 1166, 1167, 1168, 1169, 1170] (by decide +kernel) (by decide +kernel)
set_option maxRecDepth 20000 in
theorem gL_law_X9_valence : GoodIn wsL_law (wsV RL 81 RX9 yX9_valence wsX9_valence) := goodIn_app (goodIn_of _ (by decide +kernel)) ggL_law_X9_valence
set_option maxRecDepth 20000 in
theorem ggL_law_X8_trees : GoodIn wsL_law wsX8_trees := goodIn_r _ [625, 474, 475, 476, 477, 626, 627, 2, 628, 629, 630, 631, 632, 633, 634, 501, 502, 503, 504, 505, 506, 507, 508, 509, 510, 635, 488, 489, 490, 491, 492, 493, 494, 495, 496, 497, 636, 499, 500, 511, 512, 513, 514, 515, 516, 517, 518, 519, 594, 521, 522] (by decide +kernel) (by decide +kernel)
set_option maxRecDepth 20000 in
theorem gL_law_X8_trees : GoodIn wsL_law (wsV RL 82 RX8 yX8_trees wsX8_trees) := goodIn_app (goodIn_of _ (by decide +kernel)) ggL_law_X8_trees
set_option maxRecDepth 20000 in
theorem ggL_law_X9_trees : GoodIn wsL_law wsX9_trees := goodIn_r _ [640, 256, 482, 455, 641, 160, 161, 5, 162, 642, 643, 644, 645, 102, 528, 529, 530, 158, 531, 532, 533, 538, 539, 540, 1129, 1130, 1131, 1132, 1133, 1134, 1135, 1136, 1137, 1138, 1139, 1140, 1141, 1142, 1143, 1144, 1145, 1146, 1147, 1148, 1149, 1150, 1151, 1152, 1153, 1154, 1155, 1156, 1157, 1158, 1159, 1160, 1161, 1162, 1163, 1164, 1165, 1166, 1167, 1168, 1169, 1170] (by decide +kernel) (by decide +kernel)
set_option maxRecDepth 20000 in
theorem gL_law_X9_trees : GoodIn wsL_law (wsV RL 85 RX9 yX9_trees wsX9_trees) := goodIn_app (goodIn_of _ (by decide +kernel)) ggL_law_X9_trees
set_option maxRecDepth 20000 in
theorem ggL_law_X8_tree : GoodIn wsL_law wsX8_tree := goodIn_r _ [649, 474, 475, 476, 477, 626, 627, 2, 628, 650, 651, 652, 635, 488, 489, 490, 491, 492, 493, 494, 495, 496, 497, 636, 499, 500, 501, 502, 503, 504, 505, 506, 507, 508, 509, 510, 511, 512, 513, 514, 515, 516, 517, 518, 519, 594, 521, 522, 632, 633, 634, 568] (by decide +kernel) (by decide +kernel)
set_option maxRecDepth 20000 in
theorem gL_law_X8_tree : GoodIn wsL_law (wsV RL 86 RX8 yX8_tree wsX8_tree) := goodIn_app (goodIn_of _ (by decide +kernel)) ggL_law_X8_tree
set_option maxRecDepth 20000 in
theorem ggL_law_X9_tree : GoodIn wsL_law wsX9_tree := goodIn_r _ [656, 256, 482, 455, 641, 102, 160, 161, 5, 162, 642, 643, 644, 645, 528, 529, 530, 158, 531, 532, 533, 538, 539, 540, 1129, 1130, 1131, 1132, 1133, 1134, 1135, 1136, 1137, 1138, 1139, 1140, 1141, 1142, 1143, 1144, 1145, 1146, 1147, 1148, 1149, 1150, 1151, 1152, 1153, 1154, 1155, 1156, 1157, 1158, 1159, 1160, 1161, 1162, 1163, 1164, 1165, 1166, 1167, 1168, 1169, 1170] (by decide +kernel) (by decide +kernel)
set_option maxRecDepth 20000 in
theorem gL_law_X9_tree : GoodIn wsL_law (wsV RL 90 RX9 yX9_tree wsX9_tree) := goodIn_app (goodIn_of _ (by decide +kernel)) ggL_law_X9_tree
set_option maxRecDepth 20000 in
theorem ggL_law_X8_forget : GoodIn wsL_law wsX8_forget := goodIn_r _ [660, 15, 472, 473, 20, 661, 662, 476, 663, 501, 502, 503, 504, 505, 506, 507, 508, 509, 510, 511, 512, 513, 664, 665, 666, 635, 488, 489, 490, 475, 477, 491, 492, 493, 494, 495, 496, 497, 594, 521, 522, 121, 122, 123, 19, 124, 125, 126, 127, 128, 129, 130, 51, 131, 132, 133, 14, 134, 135, 45, 136, 137, 138, 139, 140, 141, 142, 143, 144, 145, 44, 146, 147, 148, 149, 150, 151, 152, 153, 523, 1120, 1121, 1122, 1123, 1124, 1125, 1126, 1127, 1128, 1171, 1172, 1173, 1174, 1175, 1176, 1177, 1178] (by decide +kernel) (by decide +kernel)
set_option maxRecDepth 20000 in
theorem gL_law_X8_forget : GoodIn wsL_law (wsV RL 91 RX8 yX8_forget wsX8_forget) := goodIn_app (goodIn_of _ (by decide +kernel)) ggL_law_X8_forget
set_option maxRecDepth 20000 in
theorem ggL_law_X9_forget : GoodIn wsL_law wsX9_forget := goodIn_r _ [670, 93, 172, 97, 160, 161, 5, 162, 163, 164, 165, 166, 167, 168, 169, 170, 159, 171, 92, 94, 671, 672, 673, 528, 529, 530, 158, 531, 532, 533, 560, 561, 562, 563, 541, 542, 543, 544, 257, 258, 259, 173, 174, 175, 176, 96, 177, 95, 178, 1129, 1130, 1131, 1132, 1133, 1134, 1135, 1136, 1137, 1138, 1139, 1140, 1141, 1142, 1143, 1144, 1145, 1146, 1147, 1148, 1149, 1150, 1151, 1152, 1153, 1154, 1155, 1156, 1157, 1158, 1159, 1160, 1161, 1162, 1163, 1164, 1165, 1166, 1167, 1168, 1169, 1170] (by decide +kernel) (by decide +kernel)
set_option maxRecDepth 20000 in
theorem gL_law_X9_forget : GoodIn wsL_law (wsV RL 94 RX9 yX9_forget wsX9_forget) := goodIn_app (goodIn_of _ (by decide +kernel)) ggL_law_X9_forget
set_option maxRecDepth 20000 in
theorem ggL_law_X8_onTree : GoodIn wsL_law wsX8_onTree := goodIn_r _ [677, 15, 183, 472, 272, 473, 678, 679, 680, 2, 681, 24, 585, 586, 476, 587, 588, 589, 590, 591, 592, 593, 501, 502, 503, 504, 505, 506, 507, 508, 509, 510, 511, 512, 513, 517, 518, 519, 594, 521, 522, 596, 597, 598, 599, 600, 601, 284, 285, 286, 23, 287, 288, 289, 290, 224, 143, 144, 14, 145, 44, 291, 292, 293, 294, 295, 296, 297, 298, 299, 300, 301, 302, 303, 304, 305, 306, 58, 59, 307, 308, 309, 310, 311, 312, 313, 314, 315, 316, 317, 318, 319, 320, 321, 322, 323, 324, 325, 326, 327, 328, 329, 330, 331, 332, 333, 334, 335, 336, 337, 338, 339, 340, 523, 568, 1120, 1121, 1122, 1123, 1124, 1125, 1126, 1127, 1128, 1171, 1172, 1173, 1174, 1175, 1179, 1180, 1181, 1182, 1183, 1184, 1185] (by decide +kernel) (by decide +kernel)
set_option maxRecDepth 20000 in
theorem gL_law_X8_onTree : GoodIn wsL_law (wsV RL 95 RX8 yX8_onTree wsX8_onTree) := goodIn_app (goodIn_of _ (by decide +kernel)) ggL_law_X8_onTree
set_option maxRecDepth 20000 in
theorem ggL_law_X9_onTree : GoodIn wsL_law wsX9_onTree := goodIn_r _ [685, 171, 93, 360, 172, 94, 686, 687, 688, 5, 689, 98, 92, 606, 607, 608, 609, 610, 611, 612, 613, 614, 615, 616, 617, 618, 619, 620, 621, 365, 366, 367, 368, 369, 370, 371, 372, 373, 374, 375, 158, 376, 377, 378, 379, 380, 381, 382, 383, 384, 385, 386, 387, 388, 1129, 1130, 1131, 1132, 1133, 1134, 1135, 1136, 1137, 1138, 1139, 1140, 1141, 1142, 1143, 1144, 1145, 1146, 1147, 1148, 1149, 1150, 1151, 1152, 1153, 1154, 1155, 1156, 1157, 1158, 1159, 1160, 1161, 1162, 1163, 1164, 1165, 1166, 1167, 1168, 1169, 1170] (by decide +kernel) (by decide +kernel)
set_option maxRecDepth 20000 in
theorem gL_law_X9_onTree : GoodIn wsL_law (wsV RL 99 RX9 yX9_onTree wsX9_onTree) := goodIn_app (goodIn_of _ (by decide +kernel)) ggL_law_X9_onTree
set_option maxRecDepth 20000 in
theorem ggL_law_X8_undo : GoodIn wsL_law wsX8_undo := goodIn_r _ [693, 20, 15, 694, 695, 696, 19, 697, 125, 698, 699, 700, 701, 127, 128, 129, 130, 51, 150, 151, 152, 14, 153, 135, 137, 44, 45, 136, 1120, 1121, 1122, 1123, 1124, 1125, 1126, 1127, 1128, 1176, 1177, 1178, 1171, 1172, 1173, 1174, 1175] (by decide +kernel) (by decide +kernel)
set_option maxRecDepth 20000 in
theorem gL_law_X8_undo : GoodIn wsL_law (wsV RL 100 RX8 yX8_undo wsX8_undo) := goodIn_app (goodIn_of _ (by decide +kernel)) ggL_law_X8_undo
set_option maxRecDepth 20000 in
theorem ggL_law_X9_undo : GoodIn wsL_law wsX9_undo := goodIn_r _ [705, 177, 96, 178, 95, 167, 168, 169, 5, 170, 159, 171, 93, 172, 92, 94, 706, 707, 708, 709, 1129, 1130, 1131, 1132, 1133, 1134, 1135, 1136, 1137, 1138, 1139, 1140, 1141, 1142, 1143, 1144, 1145, 1146, 1147, 1148, 1149, 1150, 1151, 1152, 1153, 1154, 1155, 1156, 1157, 1158, 1159, 1160, 1161, 1162, 1163, 1164, 1165, 1166, 1167, 1168, 1169, 1170] (by decide +kernel) (by decide +kernel)
set_option maxRecDepth 20000 in
theorem gL_law_X9_undo : GoodIn wsL_law (wsV RL 103 RX9 yX9_undo wsX9_undo) := goodIn_app (goodIn_of _ (by decide +kernel)) ggL_law_X9_undo
set_option maxRecDepth 20000 in
theorem ggL_law_X8_again : GoodIn wsL_law wsX8_again := goodIn_r _ [713, 20, 15, 714, 715, 716, 19, 717, 126, 125, 718, 719, 720, 721, 127, 128, 129, 130, 51, 150, 151, 152, 14, 153, 135, 137, 44, 45, 136, 1120, 1121, 1122, 1123, 1124, 1125, 1126, 1127, 1128, 1176, 1177, 1178, 1171, 1172, 1173, 1174, 1175] (by decide +kernel) (by decide +kernel)
set_option maxRecDepth 20000 in
theorem gL_law_X8_again : GoodIn wsL_law (wsV RL 104 RX8 yX8_again wsX8_again) := goodIn_app (goodIn_of _ (by decide +kernel)) ggL_law_X8_again
set_option maxRecDepth 20000 in
theorem ggL_law_X9_again : GoodIn wsL_law wsX9_again := goodIn_r _ [725, 178, 95, 177, 96, 167, 168, 169, 5, 170, 159, 171, 93, 172, 92, 94, 706, 707, 708, 709, 1129, 1130, 1131, 1132, 1133, 1134, 1135, 1136, 1137, 1138, 1139, 1140, 1141, 1142, 1143, 1144, 1145, 1146, 1147, 1148, 1149, 1150, 1151, 1152, 1153, 1154, 1155, 1156, 1157, 1158, 1159, 1160, 1161, 1162, 1163, 1164, 1165, 1166, 1167, 1168, 1169, 1170] (by decide +kernel) (by decide +kernel)
set_option maxRecDepth 20000 in
theorem gL_law_X9_again : GoodIn wsL_law (wsV RL 107 RX9 yX9_again wsX9_again) := goodIn_app (goodIn_of _ (by decide +kernel)) ggL_law_X9_again
set_option maxRecDepth 20000 in
theorem ggL_law_X8_feed : GoodIn wsL_law wsX8_feed := goodIn_r _ [729, 30, 730, 731, 732, 733, 67, 734, 735, 76, 1120, 1121, 1122, 1123, 1124, 1125, 1126, 1127, 1128, 1200, 1201] (by decide +kernel) (by decide +kernel)
set_option maxRecDepth 20000 in
theorem gL_law_X8_feed : GoodIn wsL_law (wsV RL 108 RX8 yX8_feed wsX8_feed) := goodIn_app (goodIn_of _ (by decide +kernel)) ggL_law_X8_feed
set_option maxRecDepth 20000 in
theorem ggL_law_X9_feed : GoodIn wsL_law wsX9_feed := goodIn_r _ [739, 740, 741, 103, 160, 161, 5, 162, 1129, 1130, 1131, 1132, 1133, 1134, 1135, 1136, 1137, 1138, 1139, 1140, 1141, 1142, 1143, 1144, 1145, 1146, 1147, 1148, 1149, 1150, 1151, 1152, 1153, 1154, 1155, 1156, 1157, 1158, 1159, 1160, 1161, 1162, 1163, 1164, 1165, 1166, 1167, 1168, 1169, 1170] (by decide +kernel) (by decide +kernel)
set_option maxRecDepth 20000 in
theorem gL_law_X9_feed : GoodIn wsL_law (wsV RL 111 RX9 yX9_feed wsX9_feed) := goodIn_app (goodIn_of _ (by decide +kernel)) ggL_law_X9_feed
set_option maxRecDepth 20000 in
theorem ggL_law_X8_wipe : GoodIn wsL_law wsX8_wipe := goodIn_r _ [745, 30, 730, 1120, 1121, 1122, 1123, 1124, 1125, 1126, 1127, 1128, 1200, 1201] (by decide +kernel) (by decide +kernel)
set_option maxRecDepth 20000 in
theorem gL_law_X8_wipe : GoodIn wsL_law (wsV RL 112 RX8 yX8_wipe wsX8_wipe) := goodIn_app (goodIn_of _ (by decide +kernel)) ggL_law_X8_wipe
set_option maxRecDepth 20000 in
theorem ggL_law_X9_wipe : GoodIn wsL_law wsX9_wipe := goodIn_r _ [749, 741, 1129, 1130, 1131, 1132, 1133, 1134, 1135, 1136, 1137, 1138, 1139, 1140, 1141, 1142, 1143, 1144, 1145, 1146, 1147, 1148, 1149, 1150, 1151, 1152, 1153, 1154, 1155, 1156, 1157, 1158, 1159, 1160, 1161, 1162, 1163, 1164, 1165, 1166, 1167, 1168, 1169, 1170] (by decide +kernel) (by decide +kernel)
set_option maxRecDepth 20000 in
theorem gL_law_X9_wipe : GoodIn wsL_law (wsV RL 115 RX9 yX9_wipe wsX9_wipe) := goodIn_app (goodIn_of _ (by decide +kernel)) ggL_law_X9_wipe
set_option maxRecDepth 20000 in
theorem ggL_law_X8_read : GoodIn wsL_law wsX8_read := goodIn_r _ [753, 28, 15, 30, 730, 20, 754, 755, 756, 27, 757, 70, 758, 759, 760, 761, 151, 152, 14, 153, 135, 137, 44, 45, 136, 762, 763, 764, 765, 68, 766, 767, 768, 769, 770, 771, 772, 773, 774, 67, 775, 776, 777, 778, 779, 735, 76, 780, 781, 782, 783, 784, 785, 786, 787, 788, 789, 790, 791, 792, 793, 794, 795, 796, 797, 798, 799, 800, 801, 188, 189, 190, 191, 192, 193, 194, 802, 803, 804, 805, 806, 807, 808, 475, 476, 477, 809, 810, 811, 812, 813, 814, 815, 816, 817, 488, 489, 490, 491, 492, 493, 494, 495, 496, 497, 818, 499, 500, 501, 502, 503, 504, 505, 506, 507, 508, 509, 510, 511, 512, 513, 514, 515, 516, 517, 518, 519, 819, 521, 522, 820, 821, 822, 823, 824, 71, 825, 826, 827, 828, 829, 830, 831, 832, 833, 834, 835, 836, 837, 838, 839, 840, 121, 122, 123, 19, 124, 125, 126, 127, 128, 129, 130, 51, 131, 132, 133, 134, 138, 139, 140, 141, 142, 143, 144, 145, 146, 147, 148, 149, 150, 1120, 1121, 1122, 1123, 1124, 1125, 1126, 1127, 1128, 1200, 1201, 1186, 1187, 1188, 1189, 1190, 1191, 1171, 1172, 1173, 1174, 1175, 1176, 1177, 1178] (by decide +kernel) (by decide +kernel)
set_option maxRecDepth 20000 in
theorem gL_law_X8_read : GoodIn wsL_law (wsV RL 116 RX8 yX8_read wsX8_read) := goodIn_app (goodIn_of _ (by decide +kernel)) ggL_law_X8_read
set_option maxRecDepth 20000 in
theorem ggL_law_X9_read : GoodIn wsL_law wsX9_read := goodIn_r _ [844, 845, 846, 741, 847, 159, 848, 171, 92, 104, 849, 850, 93, 172, 851, 106, 852, 853, 854, 5, 855, 856, 857, 858, 859, 860, 103, 861, 862, 863, 864, 865, 866, 867, 868, 869, 870, 160, 161, 162, 871, 872, 873, 874, 875, 876, 877, 878, 105, 879, 880, 881, 882, 107, 883, 884, 885, 886, 108, 887, 888, 889, 890, 891, 256, 482, 528, 529, 530, 158, 531, 532, 533, 538, 539, 540, 163, 164, 165, 166, 97, 167, 168, 169, 170, 94, 541, 542, 543, 544, 257, 258, 259, 173, 174, 175, 176, 96, 177, 95, 178, 1129, 1130, 1131, 1132, 1133, 1134, 1135, 1136, 1137, 1138, 1139, 1140, 1141, 1142, 1143, 1144, 1145, 1146, 1147, 1148, 1149, 1150, 1151, 1152, 1153, 1154, 1155, 1156, 1157, 1158, 1159, 1160, 1161, 1162, 1163, 1164, 1165, 1166, 1167, 1168, 1169, 1170] (by decide +kernel) (by decide +kernel)
set_option maxRecDepth 20000 in
theorem gL_law_X9_read : GoodIn wsL_law (wsV RL 119 RX9 yX9_read wsX9_read) := goodIn_app (goodIn_of _ (by decide +kernel)) ggL_law_X9_read
set_option maxRecDepth 20000 in
theorem ggL_law_X8_why : GoodIn wsL_law wsX8_why := goodIn_r _ [895, 28, 896, 897, 898, 899, 27, 900, 71, 1120, 1121, 1122, 1123, 1124, 1125, 1126, 1127, 1128, 1186, 1187, 1188, 1189, 1190, 1191] (by decide +kernel) (by decide +kernel)
set_option maxRecDepth 20000 in
theorem gL_law_X8_why : GoodIn wsL_law (wsV RL 120 RX8 yX8_why wsX8_why) := goodIn_app (goodIn_of _ (by decide +kernel)) ggL_law_X8_why
set_option maxRecDepth 20000 in
theorem ggL_law_X9_why : GoodIn wsL_law wsX9_why := goodIn_r _ [904, 158, 887, 108, 160, 161, 5, 162, 1129, 1130, 1131, 1132, 1133, 1134, 1135, 1136, 1137, 1138, 1139, 1140, 1141, 1142, 1143, 1144, 1145, 1146, 1147, 1148, 1149, 1150, 1151, 1152, 1153, 1154, 1155, 1156, 1157, 1158, 1159, 1160, 1161, 1162, 1163, 1164, 1165, 1166, 1167, 1168, 1169, 1170] (by decide +kernel) (by decide +kernel)
set_option maxRecDepth 20000 in
theorem gL_law_X9_why : GoodIn wsL_law (wsV RL 123 RX9 yX9_why wsX9_why) := goodIn_app (goodIn_of _ (by decide +kernel)) ggL_law_X9_why
set_option maxRecDepth 20000 in
theorem ggL_law_X8_spell : GoodIn wsL_law wsX8_spell := goodIn_r _ [908, 34, 15, 909, 910, 911, 912, 33, 913, 914, 915, 916, 917, 918, 919, 920, 921, 922, 923, 924, 925, 926, 82, 927, 143, 144, 14, 145, 44, 928, 929, 930, 931, 932, 502, 476, 503, 504, 505, 506, 507, 508, 509, 510, 933, 512, 513, 934, 935, 936, 937, 938, 939, 940, 941, 1120, 1121, 1122, 1123, 1124, 1125, 1126, 1127, 1128, 1192, 1193, 1171, 1172, 1173, 1174, 1175] (by decide +kernel) (by decide +kernel)
set_option maxRecDepth 20000 in
theorem gL_law_X8_spell : GoodIn wsL_law (wsV RL 124 RX8 yX8_spell wsX8_spell) := goodIn_app (goodIn_of _ (by decide +kernel)) ggL_law_X8_spell
set_option maxRecDepth 20000 in
theorem ggL_law_X9_spell : GoodIn wsL_law wsX9_spell := goodIn_r _ [945, 946, 109, 947, 948, 949, 5, 950, 159, 171, 92, 93, 172, 94, 951, 952, 953, 954, 1129, 1130, 1131, 1132, 1133, 1134, 1135, 1136, 1137, 1138, 1139, 1140, 1141, 1142, 1143, 1144, 1145, 1146, 1147, 1148, 1149, 1150, 1151, 1152, 1153, 1154, 1155, 1156, 1157, 1158, 1159, 1160, 1161, 1162, 1163, 1164, 1165, 1166, 1167, 1168, 1169, 1170] (by decide +kernel) (by decide +kernel)
set_option maxRecDepth 20000 in
theorem gL_law_X9_spell : GoodIn wsL_law (wsV RL 127 RX9 yX9_spell wsX9_spell) := goodIn_app (goodIn_of _ (by decide +kernel)) ggL_law_X9_spell
set_option maxRecDepth 20000 in
theorem ggL_law_X8_hold : GoodIn wsL_law wsX8_hold := goodIn_r _ [958, 15, 183, 473, 472, 959, 960, 961, 2, 962, 36, 963, 269, 270, 271, 272, 120, 273, 274, 275, 276, 277, 278, 279, 24, 280, 281, 282, 283, 284, 285, 286, 23, 287, 288, 289, 290, 224, 143, 144, 14, 145, 44, 291, 292, 293, 294, 295, 296, 297, 298, 299, 300, 301, 302, 303, 304, 305, 306, 58, 59, 307, 308, 309, 310, 311, 312, 313, 314, 315, 316, 317, 318, 319, 320, 321, 322, 323, 324, 325, 326, 327, 328, 329, 330, 331, 332, 333, 334, 335, 336, 337, 338, 339, 340, 341, 342, 343, 344, 345, 346, 347, 348, 349, 350, 351, 352, 353, 354, 355, 964, 965, 966, 38, 967, 968, 969, 970, 971, 972, 973, 974, 975, 523, 502, 476, 503, 504, 505, 506, 507, 508, 509, 510, 1120, 1121, 1122, 1123, 1124, 1125, 1126, 1127, 1128, 1171, 1172, 1173, 1174, 1175, 1179, 1180, 1181, 1182, 1183, 1184, 1185, 1194, 1195, 1196, 1197, 1198, 1199] (by decide +kernel) (by decide +kernel)
set_option maxRecDepth 20000 in
theorem gL_law_X8_hold : GoodIn wsL_law (wsV RL 128 RX8 yX8_hold wsX8_hold) := goodIn_app (goodIn_of _ (by decide +kernel)) ggL_law_X8_hold
set_option maxRecDepth 20000 in
theorem ggL_law_X9_hold : GoodIn wsL_law wsX9_hold := goodIn_r _ [979, 110, 111, 980, 171, 113, 93, 112, 172, 114, 94, 981, 982, 5, 983, 380, 160, 161, 162, 984, 357, 358, 359, 159, 360, 361, 362, 363, 364, 98, 92, 365, 366, 367, 368, 369, 370, 371, 372, 373, 374, 375, 158, 376, 377, 378, 379, 381, 382, 383, 384, 385, 386, 387, 388, 389, 390, 391, 392, 393, 394, 395, 396, 397, 398, 399, 1129, 1130, 1131, 1132, 1133, 1134, 1135, 1136, 1137, 1138, 1139, 1140, 1141, 1142, 1143, 1144, 1145, 1146, 1147, 1148, 1149, 1150, 1151, 1152, 1153, 1154, 1155, 1156, 1157, 1158, 1159, 1160, 1161, 1162, 1163, 1164, 1165, 1166, 1167, 1168, 1169, 1170] (by decide +kernel) (by decide +kernel)
set_option maxRecDepth 20000 in
theorem gL_law_X9_hold : GoodIn wsL_law (wsV RL 131 RX9 yX9_hold wsX9_hold) := goodIn_app (goodIn_of _ (by decide +kernel)) ggL_law_X9_hold
set_option maxRecDepth 20000 in
theorem ggL_law_X8_lose : GoodIn wsL_law wsX8_lose := goodIn_r _ [988, 989, 959, 960, 961, 2, 962, 36, 1194, 1195, 1196, 1197, 1198, 1199, 1120, 1121, 1122, 1123, 1124, 1125, 1126, 1127, 1128] (by decide +kernel) (by decide +kernel)
set_option maxRecDepth 20000 in
theorem gL_law_X8_lose : GoodIn wsL_law (wsV RL 132 RX8 yX8_lose wsX8_lose) := goodIn_app (goodIn_of _ (by decide +kernel)) ggL_law_X8_lose
set_option maxRecDepth 20000 in
theorem ggL_law_X9_lose : GoodIn wsL_law wsX9_lose := goodIn_r _ [993, 110, 981, 982, 5, 983, 380, 160, 161, 162, 1129, 1130, 1131, 1132, 1133, 1134, 1135, 1136, 1137, 1138, 1139, 1140, 1141, 1142, 1143, 1144, 1145, 1146, 1147, 1148, 1149, 1150, 1151, 1152, 1153, 1154, 1155, 1156, 1157, 1158, 1159, 1160, 1161, 1162, 1163, 1164, 1165, 1166, 1167, 1168, 1169, 1170] (by decide +kernel) (by decide +kernel)
set_option maxRecDepth 20000 in
theorem gL_law_X9_lose : GoodIn wsL_law (wsV RL 135 RX9 yX9_lose wsX9_lose) := goodIn_app (goodIn_of _ (by decide +kernel)) ggL_law_X9_lose
set_option maxRecDepth 20000 in
theorem ggL_law_X8_taken : GoodIn wsL_law wsX8_taken := goodIn_r _ [997, 989, 959, 960, 961, 2, 962, 36, 998, 999, 1000, 38, 1001, 968, 974, 1002, 1003, 1004, 1005, 975, 1006, 502, 476, 503, 504, 505, 506, 507, 508, 509, 510, 1007, 1008, 1009, 1010, 969, 1011, 1012, 1013, 1014, 1015, 1194, 1195, 1196, 1197, 1198, 1199, 1120, 1121, 1122, 1123, 1124, 1125, 1126, 1127, 1128] (by decide +kernel) (by decide +kernel)
set_option maxRecDepth 20000 in
theorem gL_law_X8_taken : GoodIn wsL_law (wsV RL 136 RX8 yX8_taken wsX8_taken) := goodIn_app (goodIn_of _ (by decide +kernel)) ggL_law_X8_taken
set_option maxRecDepth 20000 in
theorem ggL_law_X9_taken : GoodIn wsL_law wsX9_taken := goodIn_r _ [1019, 256, 110, 111, 112, 113, 981, 982, 5, 983, 380, 160, 161, 162, 1020, 1021, 1022, 1023, 1129, 1130, 1131, 1132, 1133, 1134, 1135, 1136, 1137, 1138, 1139, 1140, 1141, 1142, 1143, 1144, 1145, 1146, 1147, 1148, 1149, 1150, 1151, 1152, 1153, 1154, 1155, 1156, 1157, 1158, 1159, 1160, 1161, 1162, 1163, 1164, 1165, 1166, 1167, 1168, 1169, 1170] (by decide +kernel) (by decide +kernel)
set_option maxRecDepth 20000 in
theorem gL_law_X9_taken : GoodIn wsL_law (wsV RL 139 RX9 yX9_taken wsX9_taken) := goodIn_app (goodIn_of _ (by decide +kernel)) ggL_law_X9_taken
set_option maxRecDepth 20000 in
theorem ggL_law_X8_common : GoodIn wsL_law wsX8_common := goodIn_r _ [1027, 1028, 15, 472, 1029, 473, 959, 960, 961, 2, 962, 36, 1030, 1031, 1032, 989, 523, 502, 476, 503, 504, 505, 506, 507, 508, 509, 510, 1194, 1195, 1196, 1197, 1198, 1199, 1120, 1121, 1122, 1123, 1124, 1125, 1126, 1127, 1128, 1171, 1172, 1173, 1174, 1175] (by decide +kernel) (by decide +kernel)
set_option maxRecDepth 20000 in
theorem gL_law_X8_common : GoodIn wsL_law (wsV RL 140 RX8 yX8_common wsX8_common) := goodIn_app (goodIn_of _ (by decide +kernel)) ggL_law_X8_common
set_option maxRecDepth 20000 in
theorem ggL_law_X9_common_ : GoodIn wsL_law wsX9_common_ := goodIn_r _ [1036, 110, 113, 93, 112, 114, 981, 982, 5, 983, 380, 160, 161, 162, 560, 561, 562, 563, 172, 94, 1129, 1130, 1131, 1132, 1133, 1134, 1135, 1136, 1137, 1138, 1139, 1140, 1141, 1142, 1143, 1144, 1145, 1146, 1147, 1148, 1149, 1150, 1151, 1152, 1153, 1154, 1155, 1156, 1157, 1158, 1159, 1160, 1161, 1162, 1163, 1164, 1165, 1166, 1167, 1168, 1169, 1170] (by decide +kernel) (by decide +kernel)
set_option maxRecDepth 20000 in
theorem gL_law_X9_common_ : GoodIn wsL_law (wsV RL 143 RX9 yX9_common_ wsX9_common_) := goodIn_app (goodIn_of _ (by decide +kernel)) ggL_law_X9_common_
set_option maxRecDepth 20000 in
theorem ggL_law_X8_row : GoodIn wsL_law wsX8_row := goodIn_r _ [1040, 959, 960, 961, 2, 962, 36, 1041, 1042, 1043, 38, 1044, 968, 1045, 87, 1120, 1121, 1122, 1123, 1124, 1125, 1126, 1127, 1128, 1194, 1195, 1196, 1197, 1198, 1199] (by decide +kernel) (by decide +kernel)
set_option maxRecDepth 20000 in
theorem gL_law_X8_row : GoodIn wsL_law (wsV RL 144 RX8 yX8_row wsX8_row) := goodIn_app (goodIn_of _ (by decide +kernel)) ggL_law_X8_row
set_option maxRecDepth 20000 in
theorem ggL_law_X9_row : GoodIn wsL_law wsX9_row := goodIn_r _ [1049, 110, 112, 114, 981, 982, 5, 983, 380, 160, 161, 162, 1129, 1130, 1131, 1132, 1133, 1134, 1135, 1136, 1137, 1138, 1139, 1140, 1141, 1142, 1143, 1144, 1145, 1146, 1147, 1148, 1149, 1150, 1151, 1152, 1153, 1154, 1155, 1156, 1157, 1158, 1159, 1160, 1161, 1162, 1163, 1164, 1165, 1166, 1167, 1168, 1169, 1170] (by decide +kernel) (by decide +kernel)
set_option maxRecDepth 20000 in
theorem gL_law_X9_row : GoodIn wsL_law (wsV RL 147 RX9 yX9_row wsX9_row) := goodIn_app (goodIn_of _ (by decide +kernel)) ggL_law_X9_row
set_option maxRecDepth 20000 in
theorem ggL_law_X8_set : GoodIn wsL_law wsX8_set := goodIn_r _ [1053, 1054, 959, 960, 961, 2, 962, 36, 1030, 1031, 1032, 989, 1055, 1056, 1057, 38, 1058, 1045, 1194, 1195, 1196, 1197, 1198, 1199, 1120, 1121, 1122, 1123, 1124, 1125, 1126, 1127, 1128] (by decide +kernel) (by decide +kernel)
set_option maxRecDepth 20000 in
theorem gL_law_X8_set : GoodIn wsL_law (wsV RL 148 RX8 yX8_set wsX8_set) := goodIn_app (goodIn_of _ (by decide +kernel)) ggL_law_X8_set
set_option maxRecDepth 20000 in
theorem ggL_law_X9_set : GoodIn wsL_law wsX9_set := goodIn_r _ [1062, 112, 114, 981, 982, 5, 983, 380, 160, 161, 162, 1063, 1064, 1065, 1066, 110, 1129, 1130, 1131, 1132, 1133, 1134, 1135, 1136, 1137, 1138, 1139, 1140, 1141, 1142, 1143, 1144, 1145, 1146, 1147, 1148, 1149, 1150, 1151, 1152, 1153, 1154, 1155, 1156, 1157, 1158, 1159, 1160, 1161, 1162, 1163, 1164, 1165, 1166, 1167, 1168, 1169, 1170] (by decide +kernel) (by decide +kernel)
set_option maxRecDepth 20000 in
theorem gL_law_X9_set : GoodIn wsL_law (wsV RL 152 RX9 yX9_set wsX9_set) := goodIn_app (goodIn_of _ (by decide +kernel)) ggL_law_X9_set
set_option maxRecDepth 20000 in
theorem ggL_law_X8_get : GoodIn wsL_law wsX8_get := goodIn_r _ [1070, 989, 272, 1054, 959, 960, 961, 2, 962, 36, 1055, 1056, 1057, 38, 1058, 1045, 1194, 1195, 1196, 1197, 1198, 1199, 1120, 1121, 1122, 1123, 1124, 1125, 1126, 1127, 1128] (by decide +kernel) (by decide +kernel)
set_option maxRecDepth 20000 in
theorem gL_law_X8_get : GoodIn wsL_law (wsV RL 153 RX8 yX8_get wsX8_get) := goodIn_app (goodIn_of _ (by decide +kernel)) ggL_law_X8_get
set_option maxRecDepth 20000 in
theorem ggL_law_X9_get : GoodIn wsL_law wsX9_get := goodIn_r _ [1074, 110, 112, 114, 360, 981, 982, 5, 983, 380, 160, 161, 162, 1129, 1130, 1131, 1132, 1133, 1134, 1135, 1136, 1137, 1138, 1139, 1140, 1141, 1142, 1143, 1144, 1145, 1146, 1147, 1148, 1149, 1150, 1151, 1152, 1153, 1154, 1155, 1156, 1157, 1158, 1159, 1160, 1161, 1162, 1163, 1164, 1165, 1166, 1167, 1168, 1169, 1170] (by decide +kernel) (by decide +kernel)
set_option maxRecDepth 20000 in
theorem gL_law_X9_get : GoodIn wsL_law (wsV RL 157 RX9 yX9_get wsX9_get) := goodIn_app (goodIn_of _ (by decide +kernel)) ggL_law_X9_get
set_option maxRecDepth 20000 in
theorem ggL_law_X8_judge : GoodIn wsL_law wsX8_judge := goodIn_r _ [1078, 15, 473, 959, 960, 961, 2, 962, 36, 1030, 1031, 1032, 989, 1079, 1080, 1081, 38, 1082, 1045, 87, 1006, 502, 476, 503, 504, 505, 506, 507, 508, 509, 510, 1083, 1056, 1057, 1058, 1084, 512, 513, 1120, 1121, 1122, 1123, 1124, 1125, 1126, 1127, 1128, 1171, 1172, 1173, 1174, 1175, 1194, 1195, 1196, 1197, 1198, 1199] (by decide +kernel) (by decide +kernel)
set_option maxRecDepth 20000 in
theorem gL_law_X8_judge : GoodIn wsL_law (wsV RL 158 RX8 yX8_judge wsX8_judge) := goodIn_app (goodIn_of _ (by decide +kernel)) ggL_law_X8_judge
set_option maxRecDepth 20000 in
theorem ggL_law_X9_judge : GoodIn wsL_law wsX9_judge := goodIn_r _ [1088, 112, 172, 114, 94, 981, 982, 5, 983, 380, 160, 161, 162, 1063, 1064, 1065, 1066, 110, 1129, 1130, 1131, 1132, 1133, 1134, 1135, 1136, 1137, 1138, 1139, 1140, 1141, 1142, 1143, 1144, 1145, 1146, 1147, 1148, 1149, 1150, 1151, 1152, 1153, 1154, 1155, 1156, 1157, 1158, 1159, 1160, 1161, 1162, 1163, 1164, 1165, 1166, 1167, 1168, 1169, 1170] (by decide +kernel) (by decide +kernel)
set_option maxRecDepth 20000 in
theorem gL_law_X9_judge : GoodIn wsL_law (wsV RL 161 RX9 yX9_judge wsX9_judge) := goodIn_app (goodIn_of _ (by decide +kernel)) ggL_law_X9_judge
set_option maxRecDepth 20000 in
theorem ggL_law_X8_image : GoodIn wsL_law wsX8_image := goodIn_r _ [1092, 16, 15, 1093, 183, 1094, 151, 152, 14, 153, 135, 137, 44, 45, 136, 1120, 1121, 1122, 1123, 1124, 1125, 1126, 1127, 1128, 1171, 1172, 1173, 1174, 1175] (by decide +kernel) (by decide +kernel)
set_option maxRecDepth 20000 in
theorem gL_law_X8_image : GoodIn wsL_law (wsV RL 162 RX8 yX8_image wsX8_image) := goodIn_app (goodIn_of _ (by decide +kernel)) ggL_law_X8_image
set_option maxRecDepth 20000 in
theorem ggL_law_X9_image : GoodIn wsL_law wsX9_image := goodIn_r _ [1098, 115, 1099, 171, 167, 168, 169, 5, 170, 159, 93, 172, 92, 94, 1129, 1130, 1131, 1132, 1133, 1134, 1135, 1136, 1137, 1138, 1139, 1140, 1141, 1142, 1143, 1144, 1145, 1146, 1147, 1148, 1149, 1150, 1151, 1152, 1153, 1154, 1155, 1156, 1157, 1158, 1159, 1160, 1161, 1162, 1163, 1164, 1165, 1166, 1167, 1168, 1169, 1170] (by decide +kernel) (by decide +kernel)
set_option maxRecDepth 20000 in
theorem gL_law_X9_image : GoodIn wsL_law (wsV RL 165 RX9 yX9_image wsX9_image) := goodIn_app (goodIn_of _ (by decide +kernel)) ggL_law_X9_image
set_option maxRecDepth 20000 in
theorem ggL_law_X8_restore : GoodIn wsL_law wsX8_restore := goodIn_r _ [1103, 1093, 15, 16, 20, 183, 1094, 151, 152, 14, 153, 135, 137, 44, 45, 136, 1104, 1105, 1106, 19, 1107, 125, 126, 51, 150, 1120, 1121, 1122, 1123, 1124, 1125, 1126, 1127, 1128, 1171, 1172, 1173, 1174, 1175, 1176, 1177, 1178] (by decide +kernel) (by decide +kernel)
set_option maxRecDepth 20000 in
theorem gL_law_X8_restore : GoodIn wsL_law (wsV RL 166 RX8 yX8_restore wsX8_restore) := goodIn_app (goodIn_of _ (by decide +kernel)) ggL_law_X8_restore
set_option maxRecDepth 20000 in
theorem ggL_law_X9_restore : GoodIn wsL_law wsX9_restore := goodIn_r _ [1111, 1099, 115, 177, 178, 171, 706, 707, 708, 5, 709, 159, 93, 172, 92, 94, 1129, 1130, 1131, 1132, 1133, 1134, 1135, 1136, 1137, 1138, 1139, 1140, 1141, 1142, 1143, 1144, 1145, 1146, 1147, 1148, 1149, 1150, 1151, 1152, 1153, 1154, 1155, 1156, 1157, 1158, 1159, 1160, 1161, 1162, 1163, 1164, 1165, 1166, 1167, 1168, 1169, 1170] (by decide +kernel) (by decide +kernel)
set_option maxRecDepth 20000 in
theorem gL_law_X9_restore : GoodIn wsL_law (wsV RL 169 RX9 yX9_restore wsX9_restore) := goodIn_app (goodIn_of _ (by decide +kernel)) ggL_law_X9_restore
set_option maxRecDepth 20000 in
theorem ggL_law_X8_count : GoodIn wsL_law wsX8_count := goodIn_r _ [1115, 15, 120, 183, 472, 473, 20, 30, 730, 523, 502, 476, 503, 504, 505, 506, 507, 508, 509, 510, 694, 695, 696, 19, 697, 125, 714, 715, 716, 717, 126, 1120, 1121, 1122, 1123, 1124, 1125, 1126, 1127, 1128, 1171, 1172, 1173, 1174, 1175, 1200, 1201, 1176, 1177, 1178] (by decide +kernel) (by decide +kernel)
set_option maxRecDepth 20000 in
theorem gL_law_X8_count : GoodIn wsL_law (wsV RL 170 RX8 yX8_count wsX8_count) := goodIn_app (goodIn_of _ (by decide +kernel)) ggL_law_X8_count
set_option maxRecDepth 20000 in
theorem ggL_law_X9_count : GoodIn wsL_law wsX9_count := goodIn_r _ [1119, 159, 171, 93, 172, 177, 178, 741, 1129, 1130, 1131, 1132, 1133, 1134, 1135, 1136, 1137, 1138, 1139, 1140, 1141, 1142, 1143, 1144, 1145, 1146, 1147, 1148, 1149, 1150, 1151, 1152, 1153, 1154, 1155, 1156, 1157, 1158, 1159, 1160, 1161, 1162, 1163, 1164, 1165, 1166, 1167, 1168, 1169, 1170] (by decide +kernel) (by decide +kernel)
set_option maxRecDepth 20000 in
theorem gL_law_X9_count : GoodIn wsL_law (wsV RL 173 RX9 yX9_count wsX9_count) := goodIn_app (goodIn_of _ (by decide +kernel)) ggL_law_X9_count
theorem dL_law_0 : decode cL_law 0 = .ok (.new 7, 3) := by decide +kernel
theorem dL_law_3 : decode cL_law 3 = .ok (.dup, 1) := by decide +kernel
theorem dL_law_4 : decode cL_law 4 = .ok (.invokespecial 9, 3) := by decide +kernel
theorem dL_law_7 : decode cL_law 7 = .ok (.astore_n 1, 1) := by decide +kernel
theorem dL_law_8 : decode cL_law 8 = .ok (.new 10, 3) := by decide +kernel
theorem dL_law_11 : decode cL_law 11 = .ok (.dup, 1) := by decide +kernel
theorem dL_law_12 : decode cL_law 12 = .ok (.invokespecial 12, 3) := by decide +kernel
theorem dL_law_15 : decode cL_law 15 = .ok (.astore_n 2, 1) := by decide +kernel
theorem dL_law_16 : decode cL_law 16 = .ok (.iconst 0, 1) := by decide +kernel
theorem dL_law_17 : decode cL_law 17 = .ok (.istore_n 3, 1) := by decide +kernel
theorem dL_law_18 : decode cL_law 18 = .ok (.iload_n 3, 1) := by decide +kernel
theorem dL_law_19 : decode cL_law 19 = .ok (.aload_n 0, 1) := by decide +kernel
theorem dL_law_20 : decode cL_law 20 = .ok (.arraylength, 1) := by decide +kernel
theorem dL_law_21 : decode cL_law 21 = .ok (.iconst 5, 1) := by decide +kernel
theorem dL_law_22 : decode cL_law 22 = .ok (.isub, 1) := by decide +kernel
theorem dL_law_23 : decode cL_law 23 = .ok (.if_icmp .gt 1131, 3) := by decide +kernel
theorem dL_law_26 : decode cL_law 26 = .ok (.aload_n 0, 1) := by decide +kernel
theorem dL_law_27 : decode cL_law 27 = .ok (.iload_n 3, 1) := by decide +kernel
theorem dL_law_28 : decode cL_law 28 = .ok (.iaload, 1) := by decide +kernel
theorem dL_law_29 : decode cL_law 29 = .ok (.bipush 63, 2) := by decide +kernel
theorem dL_law_31 : decode cL_law 31 = .ok (.iand, 1) := by decide +kernel
theorem dL_law_32 : decode cL_law 32 = .ok (.tableswitch 1116 0 37 #[168, 191, 214, 237, 270, 293, 316, 340, 353, 366, 420, 443, 466, 489, 512, 535, 558, 591, 644, 667, 681, 694, 707, 740, 753, 766, 799, 822, 855, 878, 911, 934, 967, 1010, 1044, 1067, 1080, 1093], 168) := by decide +kernel
theorem dL_law_200 : decode cL_law 200 = .ok (.aload_n 1, 1) := by decide +kernel
theorem dL_law_201 : decode cL_law 201 = .ok (.aload_n 0, 1) := by decide +kernel
theorem dL_law_202 : decode cL_law 202 = .ok (.iload_n 3, 1) := by decide +kernel
theorem dL_law_203 : decode cL_law 203 = .ok (.iconst 1, 1) := by decide +kernel
theorem dL_law_204 : decode cL_law 204 = .ok (.iadd, 1) := by decide +kernel
theorem dL_law_205 : decode cL_law 205 = .ok (.iaload, 1) := by decide +kernel
theorem dL_law_206 : decode cL_law 206 = .ok (.invokevirtual 13, 3) := by decide +kernel
theorem dL_law_209 : decode cL_law 209 = .ok (.aload_n 2, 1) := by decide +kernel
theorem dL_law_210 : decode cL_law 210 = .ok (.aload_n 0, 1) := by decide +kernel
theorem dL_law_211 : decode cL_law 211 = .ok (.iload_n 3, 1) := by decide +kernel
theorem dL_law_212 : decode cL_law 212 = .ok (.iconst 1, 1) := by decide +kernel
theorem dL_law_213 : decode cL_law 213 = .ok (.iadd, 1) := by decide +kernel
theorem dL_law_214 : decode cL_law 214 = .ok (.iaload, 1) := by decide +kernel
theorem dL_law_215 : decode cL_law 215 = .ok (.invokevirtual 17, 3) := by decide +kernel
theorem dL_law_218 : decode cL_law 218 = .ok (.if_icmp .eq 930, 3) := by decide +kernel
theorem dL_law_221 : decode cL_law 221 = .ok (.iconst 0, 1) := by decide +kernel
theorem dL_law_222 : decode cL_law 222 = .ok (.ireturn, 1) := by decide +kernel
theorem dL_law_223 : decode cL_law 223 = .ok (.aload_n 1, 1) := by decide +kernel
theorem dL_law_224 : decode cL_law 224 = .ok (.aload_n 0, 1) := by decide +kernel
theorem dL_law_225 : decode cL_law 225 = .ok (.iload_n 3, 1) := by decide +kernel
theorem dL_law_226 : decode cL_law 226 = .ok (.iconst 1, 1) := by decide +kernel
theorem dL_law_227 : decode cL_law 227 = .ok (.iadd, 1) := by decide +kernel
theorem dL_law_228 : decode cL_law 228 = .ok (.iaload, 1) := by decide +kernel
theorem dL_law_229 : decode cL_law 229 = .ok (.invokevirtual 18, 3) := by decide +kernel
theorem dL_law_232 : decode cL_law 232 = .ok (.aload_n 2, 1) := by decide +kernel
theorem dL_law_233 : decode cL_law 233 = .ok (.aload_n 0, 1) := by decide +kernel
theorem dL_law_234 : decode cL_law 234 = .ok (.iload_n 3, 1) := by decide +kernel
theorem dL_law_235 : decode cL_law 235 = .ok (.iconst 1, 1) := by decide +kernel
theorem dL_law_236 : decode cL_law 236 = .ok (.iadd, 1) := by decide +kernel
theorem dL_law_237 : decode cL_law 237 = .ok (.iaload, 1) := by decide +kernel
theorem dL_law_238 : decode cL_law 238 = .ok (.invokevirtual 21, 3) := by decide +kernel
theorem dL_law_241 : decode cL_law 241 = .ok (.if_icmp .eq 907, 3) := by decide +kernel
theorem dL_law_244 : decode cL_law 244 = .ok (.iconst 0, 1) := by decide +kernel
theorem dL_law_245 : decode cL_law 245 = .ok (.ireturn, 1) := by decide +kernel
theorem dL_law_246 : decode cL_law 246 = .ok (.aload_n 1, 1) := by decide +kernel
theorem dL_law_247 : decode cL_law 247 = .ok (.aload_n 0, 1) := by decide +kernel
theorem dL_law_248 : decode cL_law 248 = .ok (.iload_n 3, 1) := by decide +kernel
theorem dL_law_249 : decode cL_law 249 = .ok (.iconst 1, 1) := by decide +kernel
theorem dL_law_250 : decode cL_law 250 = .ok (.iadd, 1) := by decide +kernel
theorem dL_law_251 : decode cL_law 251 = .ok (.iaload, 1) := by decide +kernel
theorem dL_law_252 : decode cL_law 252 = .ok (.invokevirtual 22, 3) := by decide +kernel
theorem dL_law_255 : decode cL_law 255 = .ok (.aload_n 2, 1) := by decide +kernel
theorem dL_law_256 : decode cL_law 256 = .ok (.aload_n 0, 1) := by decide +kernel
theorem dL_law_257 : decode cL_law 257 = .ok (.iload_n 3, 1) := by decide +kernel
theorem dL_law_258 : decode cL_law 258 = .ok (.iconst 1, 1) := by decide +kernel
theorem dL_law_259 : decode cL_law 259 = .ok (.iadd, 1) := by decide +kernel
theorem dL_law_260 : decode cL_law 260 = .ok (.iaload, 1) := by decide +kernel
theorem dL_law_261 : decode cL_law 261 = .ok (.invokevirtual 25, 3) := by decide +kernel
theorem dL_law_264 : decode cL_law 264 = .ok (.if_icmp .eq 884, 3) := by decide +kernel
theorem dL_law_267 : decode cL_law 267 = .ok (.iconst 0, 1) := by decide +kernel
theorem dL_law_268 : decode cL_law 268 = .ok (.ireturn, 1) := by decide +kernel
theorem dL_law_269 : decode cL_law 269 = .ok (.aload_n 1, 1) := by decide +kernel
theorem dL_law_270 : decode cL_law 270 = .ok (.aload_n 0, 1) := by decide +kernel
theorem dL_law_271 : decode cL_law 271 = .ok (.iload_n 3, 1) := by decide +kernel
theorem dL_law_272 : decode cL_law 272 = .ok (.iconst 1, 1) := by decide +kernel
theorem dL_law_273 : decode cL_law 273 = .ok (.iadd, 1) := by decide +kernel
theorem dL_law_274 : decode cL_law 274 = .ok (.iaload, 1) := by decide +kernel
theorem dL_law_275 : decode cL_law 275 = .ok (.aload_n 0, 1) := by decide +kernel
theorem dL_law_276 : decode cL_law 276 = .ok (.iload_n 3, 1) := by decide +kernel
theorem dL_law_277 : decode cL_law 277 = .ok (.iconst 2, 1) := by decide +kernel
theorem dL_law_278 : decode cL_law 278 = .ok (.iadd, 1) := by decide +kernel
theorem dL_law_279 : decode cL_law 279 = .ok (.iaload, 1) := by decide +kernel
theorem dL_law_280 : decode cL_law 280 = .ok (.invokevirtual 26, 3) := by decide +kernel
theorem dL_law_283 : decode cL_law 283 = .ok (.aload_n 2, 1) := by decide +kernel
theorem dL_law_284 : decode cL_law 284 = .ok (.aload_n 0, 1) := by decide +kernel
theorem dL_law_285 : decode cL_law 285 = .ok (.iload_n 3, 1) := by decide +kernel
theorem dL_law_286 : decode cL_law 286 = .ok (.iconst 1, 1) := by decide +kernel
theorem dL_law_287 : decode cL_law 287 = .ok (.iadd, 1) := by decide +kernel
theorem dL_law_288 : decode cL_law 288 = .ok (.iaload, 1) := by decide +kernel
theorem dL_law_289 : decode cL_law 289 = .ok (.aload_n 0, 1) := by decide +kernel
theorem dL_law_290 : decode cL_law 290 = .ok (.iload_n 3, 1) := by decide +kernel
theorem dL_law_291 : decode cL_law 291 = .ok (.iconst 2, 1) := by decide +kernel
theorem dL_law_292 : decode cL_law 292 = .ok (.iadd, 1) := by decide +kernel
theorem dL_law_293 : decode cL_law 293 = .ok (.iaload, 1) := by decide +kernel
theorem dL_law_294 : decode cL_law 294 = .ok (.invokevirtual 30, 3) := by decide +kernel
theorem dL_law_297 : decode cL_law 297 = .ok (.if_icmp .eq 851, 3) := by decide +kernel
theorem dL_law_300 : decode cL_law 300 = .ok (.iconst 0, 1) := by decide +kernel
theorem dL_law_301 : decode cL_law 301 = .ok (.ireturn, 1) := by decide +kernel
theorem dL_law_302 : decode cL_law 302 = .ok (.aload_n 1, 1) := by decide +kernel
theorem dL_law_303 : decode cL_law 303 = .ok (.aload_n 0, 1) := by decide +kernel
theorem dL_law_304 : decode cL_law 304 = .ok (.iload_n 3, 1) := by decide +kernel
theorem dL_law_305 : decode cL_law 305 = .ok (.iconst 1, 1) := by decide +kernel
theorem dL_law_306 : decode cL_law 306 = .ok (.iadd, 1) := by decide +kernel
theorem dL_law_307 : decode cL_law 307 = .ok (.iaload, 1) := by decide +kernel
theorem dL_law_308 : decode cL_law 308 = .ok (.invokevirtual 31, 3) := by decide +kernel
theorem dL_law_311 : decode cL_law 311 = .ok (.aload_n 2, 1) := by decide +kernel
theorem dL_law_312 : decode cL_law 312 = .ok (.aload_n 0, 1) := by decide +kernel
theorem dL_law_313 : decode cL_law 313 = .ok (.iload_n 3, 1) := by decide +kernel
theorem dL_law_314 : decode cL_law 314 = .ok (.iconst 1, 1) := by decide +kernel
theorem dL_law_315 : decode cL_law 315 = .ok (.iadd, 1) := by decide +kernel
theorem dL_law_316 : decode cL_law 316 = .ok (.iaload, 1) := by decide +kernel
theorem dL_law_317 : decode cL_law 317 = .ok (.invokevirtual 34, 3) := by decide +kernel
theorem dL_law_320 : decode cL_law 320 = .ok (.if_icmp .eq 828, 3) := by decide +kernel
theorem dL_law_323 : decode cL_law 323 = .ok (.iconst 0, 1) := by decide +kernel
theorem dL_law_324 : decode cL_law 324 = .ok (.ireturn, 1) := by decide +kernel
theorem dL_law_325 : decode cL_law 325 = .ok (.aload_n 1, 1) := by decide +kernel
theorem dL_law_326 : decode cL_law 326 = .ok (.aload_n 0, 1) := by decide +kernel
theorem dL_law_327 : decode cL_law 327 = .ok (.iload_n 3, 1) := by decide +kernel
theorem dL_law_328 : decode cL_law 328 = .ok (.iconst 1, 1) := by decide +kernel
theorem dL_law_329 : decode cL_law 329 = .ok (.iadd, 1) := by decide +kernel
theorem dL_law_330 : decode cL_law 330 = .ok (.iaload, 1) := by decide +kernel
theorem dL_law_331 : decode cL_law 331 = .ok (.invokevirtual 35, 3) := by decide +kernel
theorem dL_law_334 : decode cL_law 334 = .ok (.aload_n 2, 1) := by decide +kernel
theorem dL_law_335 : decode cL_law 335 = .ok (.aload_n 0, 1) := by decide +kernel
theorem dL_law_336 : decode cL_law 336 = .ok (.iload_n 3, 1) := by decide +kernel
theorem dL_law_337 : decode cL_law 337 = .ok (.iconst 1, 1) := by decide +kernel
theorem dL_law_338 : decode cL_law 338 = .ok (.iadd, 1) := by decide +kernel
theorem dL_law_339 : decode cL_law 339 = .ok (.iaload, 1) := by decide +kernel
theorem dL_law_340 : decode cL_law 340 = .ok (.invokevirtual 38, 3) := by decide +kernel
theorem dL_law_343 : decode cL_law 343 = .ok (.if_icmp .eq 805, 3) := by decide +kernel
theorem dL_law_346 : decode cL_law 346 = .ok (.iconst 0, 1) := by decide +kernel
theorem dL_law_347 : decode cL_law 347 = .ok (.ireturn, 1) := by decide +kernel
theorem dL_law_348 : decode cL_law 348 = .ok (.aload_n 1, 1) := by decide +kernel
theorem dL_law_349 : decode cL_law 349 = .ok (.aload_n 0, 1) := by decide +kernel
theorem dL_law_350 : decode cL_law 350 = .ok (.iload_n 3, 1) := by decide +kernel
theorem dL_law_351 : decode cL_law 351 = .ok (.iconst 1, 1) := by decide +kernel
theorem dL_law_352 : decode cL_law 352 = .ok (.iadd, 1) := by decide +kernel
theorem dL_law_353 : decode cL_law 353 = .ok (.iaload, 1) := by decide +kernel
theorem dL_law_354 : decode cL_law 354 = .ok (.invokevirtual 39, 3) := by decide +kernel
theorem dL_law_357 : decode cL_law 357 = .ok (.aload_n 2, 1) := by decide +kernel
theorem dL_law_358 : decode cL_law 358 = .ok (.aload_n 0, 1) := by decide +kernel
theorem dL_law_359 : decode cL_law 359 = .ok (.iload_n 3, 1) := by decide +kernel
theorem dL_law_360 : decode cL_law 360 = .ok (.iconst 1, 1) := by decide +kernel
theorem dL_law_361 : decode cL_law 361 = .ok (.iadd, 1) := by decide +kernel
theorem dL_law_362 : decode cL_law 362 = .ok (.iaload, 1) := by decide +kernel
theorem dL_law_363 : decode cL_law 363 = .ok (.invokevirtual 43, 3) := by decide +kernel
theorem dL_law_366 : decode cL_law 366 = .ok (.lcmp, 1) := by decide +kernel
theorem dL_law_367 : decode cL_law 367 = .ok (.ifCond .eq 781, 3) := by decide +kernel
theorem dL_law_370 : decode cL_law 370 = .ok (.iconst 0, 1) := by decide +kernel
theorem dL_law_371 : decode cL_law 371 = .ok (.ireturn, 1) := by decide +kernel
theorem dL_law_372 : decode cL_law 372 = .ok (.aload_n 1, 1) := by decide +kernel
theorem dL_law_373 : decode cL_law 373 = .ok (.invokevirtual 44, 3) := by decide +kernel
theorem dL_law_376 : decode cL_law 376 = .ok (.aload_n 2, 1) := by decide +kernel
theorem dL_law_377 : decode cL_law 377 = .ok (.invokevirtual 48, 3) := by decide +kernel
theorem dL_law_380 : decode cL_law 380 = .ok (.if_icmp .eq 768, 3) := by decide +kernel
theorem dL_law_383 : decode cL_law 383 = .ok (.iconst 0, 1) := by decide +kernel
theorem dL_law_384 : decode cL_law 384 = .ok (.ireturn, 1) := by decide +kernel
theorem dL_law_385 : decode cL_law 385 = .ok (.aload_n 1, 1) := by decide +kernel
theorem dL_law_386 : decode cL_law 386 = .ok (.invokevirtual 49, 3) := by decide +kernel
theorem dL_law_389 : decode cL_law 389 = .ok (.aload_n 2, 1) := by decide +kernel
theorem dL_law_390 : decode cL_law 390 = .ok (.invokevirtual 52, 3) := by decide +kernel
theorem dL_law_393 : decode cL_law 393 = .ok (.if_icmp .eq 755, 3) := by decide +kernel
theorem dL_law_396 : decode cL_law 396 = .ok (.iconst 0, 1) := by decide +kernel
theorem dL_law_397 : decode cL_law 397 = .ok (.ireturn, 1) := by decide +kernel
theorem dL_law_398 : decode cL_law 398 = .ok (.aload_n 1, 1) := by decide +kernel
theorem dL_law_399 : decode cL_law 399 = .ok (.aload_n 0, 1) := by decide +kernel
theorem dL_law_400 : decode cL_law 400 = .ok (.iload_n 3, 1) := by decide +kernel
theorem dL_law_401 : decode cL_law 401 = .ok (.iconst 1, 1) := by decide +kernel
theorem dL_law_402 : decode cL_law 402 = .ok (.iadd, 1) := by decide +kernel
theorem dL_law_403 : decode cL_law 403 = .ok (.iaload, 1) := by decide +kernel
theorem dL_law_404 : decode cL_law 404 = .ok (.aload_n 0, 1) := by decide +kernel
theorem dL_law_405 : decode cL_law 405 = .ok (.iload_n 3, 1) := by decide +kernel
theorem dL_law_406 : decode cL_law 406 = .ok (.iconst 2, 1) := by decide +kernel
theorem dL_law_407 : decode cL_law 407 = .ok (.iadd, 1) := by decide +kernel
theorem dL_law_408 : decode cL_law 408 = .ok (.iaload, 1) := by decide +kernel
theorem dL_law_409 : decode cL_law 409 = .ok (.aload_n 0, 1) := by decide +kernel
theorem dL_law_410 : decode cL_law 410 = .ok (.iload_n 3, 1) := by decide +kernel
theorem dL_law_411 : decode cL_law 411 = .ok (.iconst 3, 1) := by decide +kernel
theorem dL_law_412 : decode cL_law 412 = .ok (.iadd, 1) := by decide +kernel
theorem dL_law_413 : decode cL_law 413 = .ok (.iaload, 1) := by decide +kernel
theorem dL_law_414 : decode cL_law 414 = .ok (.aload_n 0, 1) := by decide +kernel
theorem dL_law_415 : decode cL_law 415 = .ok (.iload_n 3, 1) := by decide +kernel
theorem dL_law_416 : decode cL_law 416 = .ok (.iconst 4, 1) := by decide +kernel
theorem dL_law_417 : decode cL_law 417 = .ok (.iadd, 1) := by decide +kernel
theorem dL_law_418 : decode cL_law 418 = .ok (.iaload, 1) := by decide +kernel
theorem dL_law_419 : decode cL_law 419 = .ok (.invokevirtual 53, 3) := by decide +kernel
theorem dL_law_422 : decode cL_law 422 = .ok (.aload_n 2, 1) := by decide +kernel
theorem dL_law_423 : decode cL_law 423 = .ok (.aload_n 0, 1) := by decide +kernel
theorem dL_law_424 : decode cL_law 424 = .ok (.iload_n 3, 1) := by decide +kernel
theorem dL_law_425 : decode cL_law 425 = .ok (.iconst 1, 1) := by decide +kernel
theorem dL_law_426 : decode cL_law 426 = .ok (.iadd, 1) := by decide +kernel
theorem dL_law_427 : decode cL_law 427 = .ok (.iaload, 1) := by decide +kernel
theorem dL_law_428 : decode cL_law 428 = .ok (.aload_n 0, 1) := by decide +kernel
theorem dL_law_429 : decode cL_law 429 = .ok (.iload_n 3, 1) := by decide +kernel
theorem dL_law_430 : decode cL_law 430 = .ok (.iconst 2, 1) := by decide +kernel
theorem dL_law_431 : decode cL_law 431 = .ok (.iadd, 1) := by decide +kernel
theorem dL_law_432 : decode cL_law 432 = .ok (.iaload, 1) := by decide +kernel
theorem dL_law_433 : decode cL_law 433 = .ok (.aload_n 0, 1) := by decide +kernel
theorem dL_law_434 : decode cL_law 434 = .ok (.iload_n 3, 1) := by decide +kernel
theorem dL_law_435 : decode cL_law 435 = .ok (.iconst 3, 1) := by decide +kernel
theorem dL_law_436 : decode cL_law 436 = .ok (.iadd, 1) := by decide +kernel
theorem dL_law_437 : decode cL_law 437 = .ok (.iaload, 1) := by decide +kernel
theorem dL_law_438 : decode cL_law 438 = .ok (.aload_n 0, 1) := by decide +kernel
theorem dL_law_439 : decode cL_law 439 = .ok (.iload_n 3, 1) := by decide +kernel
theorem dL_law_440 : decode cL_law 440 = .ok (.iconst 4, 1) := by decide +kernel
theorem dL_law_441 : decode cL_law 441 = .ok (.iadd, 1) := by decide +kernel
theorem dL_law_442 : decode cL_law 442 = .ok (.iaload, 1) := by decide +kernel
theorem dL_law_443 : decode cL_law 443 = .ok (.invokevirtual 57, 3) := by decide +kernel
theorem dL_law_446 : decode cL_law 446 = .ok (.lcmp, 1) := by decide +kernel
theorem dL_law_447 : decode cL_law 447 = .ok (.ifCond .eq 701, 3) := by decide +kernel
theorem dL_law_450 : decode cL_law 450 = .ok (.iconst 0, 1) := by decide +kernel
theorem dL_law_451 : decode cL_law 451 = .ok (.ireturn, 1) := by decide +kernel
theorem dL_law_452 : decode cL_law 452 = .ok (.aload_n 1, 1) := by decide +kernel
theorem dL_law_453 : decode cL_law 453 = .ok (.aload_n 0, 1) := by decide +kernel
theorem dL_law_454 : decode cL_law 454 = .ok (.iload_n 3, 1) := by decide +kernel
theorem dL_law_455 : decode cL_law 455 = .ok (.iconst 1, 1) := by decide +kernel
theorem dL_law_456 : decode cL_law 456 = .ok (.iadd, 1) := by decide +kernel
theorem dL_law_457 : decode cL_law 457 = .ok (.iaload, 1) := by decide +kernel
theorem dL_law_458 : decode cL_law 458 = .ok (.invokevirtual 58, 3) := by decide +kernel
theorem dL_law_461 : decode cL_law 461 = .ok (.aload_n 2, 1) := by decide +kernel
theorem dL_law_462 : decode cL_law 462 = .ok (.aload_n 0, 1) := by decide +kernel
theorem dL_law_463 : decode cL_law 463 = .ok (.iload_n 3, 1) := by decide +kernel
theorem dL_law_464 : decode cL_law 464 = .ok (.iconst 1, 1) := by decide +kernel
theorem dL_law_465 : decode cL_law 465 = .ok (.iadd, 1) := by decide +kernel
theorem dL_law_466 : decode cL_law 466 = .ok (.iaload, 1) := by decide +kernel
theorem dL_law_467 : decode cL_law 467 = .ok (.invokevirtual 61, 3) := by decide +kernel
theorem dL_law_470 : decode cL_law 470 = .ok (.if_icmp .eq 678, 3) := by decide +kernel
theorem dL_law_473 : decode cL_law 473 = .ok (.iconst 0, 1) := by decide +kernel
theorem dL_law_474 : decode cL_law 474 = .ok (.ireturn, 1) := by decide +kernel
theorem dL_law_475 : decode cL_law 475 = .ok (.aload_n 1, 1) := by decide +kernel
theorem dL_law_476 : decode cL_law 476 = .ok (.aload_n 0, 1) := by decide +kernel
theorem dL_law_477 : decode cL_law 477 = .ok (.iload_n 3, 1) := by decide +kernel
theorem dL_law_478 : decode cL_law 478 = .ok (.iconst 1, 1) := by decide +kernel
theorem dL_law_479 : decode cL_law 479 = .ok (.iadd, 1) := by decide +kernel
theorem dL_law_480 : decode cL_law 480 = .ok (.iaload, 1) := by decide +kernel
theorem dL_law_481 : decode cL_law 481 = .ok (.invokevirtual 62, 3) := by decide +kernel
theorem dL_law_484 : decode cL_law 484 = .ok (.aload_n 2, 1) := by decide +kernel
theorem dL_law_485 : decode cL_law 485 = .ok (.aload_n 0, 1) := by decide +kernel
theorem dL_law_486 : decode cL_law 486 = .ok (.iload_n 3, 1) := by decide +kernel
theorem dL_law_487 : decode cL_law 487 = .ok (.iconst 1, 1) := by decide +kernel
theorem dL_law_488 : decode cL_law 488 = .ok (.iadd, 1) := by decide +kernel
theorem dL_law_489 : decode cL_law 489 = .ok (.iaload, 1) := by decide +kernel
theorem dL_law_490 : decode cL_law 490 = .ok (.invokevirtual 65, 3) := by decide +kernel
theorem dL_law_493 : decode cL_law 493 = .ok (.if_icmp .eq 655, 3) := by decide +kernel
theorem dL_law_496 : decode cL_law 496 = .ok (.iconst 0, 1) := by decide +kernel
theorem dL_law_497 : decode cL_law 497 = .ok (.ireturn, 1) := by decide +kernel
theorem dL_law_498 : decode cL_law 498 = .ok (.aload_n 1, 1) := by decide +kernel
theorem dL_law_499 : decode cL_law 499 = .ok (.aload_n 0, 1) := by decide +kernel
theorem dL_law_500 : decode cL_law 500 = .ok (.iload_n 3, 1) := by decide +kernel
theorem dL_law_501 : decode cL_law 501 = .ok (.iconst 1, 1) := by decide +kernel
theorem dL_law_502 : decode cL_law 502 = .ok (.iadd, 1) := by decide +kernel
theorem dL_law_503 : decode cL_law 503 = .ok (.iaload, 1) := by decide +kernel
theorem dL_law_504 : decode cL_law 504 = .ok (.invokevirtual 66, 3) := by decide +kernel
theorem dL_law_507 : decode cL_law 507 = .ok (.aload_n 2, 1) := by decide +kernel
theorem dL_law_508 : decode cL_law 508 = .ok (.aload_n 0, 1) := by decide +kernel
theorem dL_law_509 : decode cL_law 509 = .ok (.iload_n 3, 1) := by decide +kernel
theorem dL_law_510 : decode cL_law 510 = .ok (.iconst 1, 1) := by decide +kernel
theorem dL_law_511 : decode cL_law 511 = .ok (.iadd, 1) := by decide +kernel
theorem dL_law_512 : decode cL_law 512 = .ok (.iaload, 1) := by decide +kernel
theorem dL_law_513 : decode cL_law 513 = .ok (.invokevirtual 69, 3) := by decide +kernel
theorem dL_law_516 : decode cL_law 516 = .ok (.if_icmp .eq 632, 3) := by decide +kernel
theorem dL_law_519 : decode cL_law 519 = .ok (.iconst 0, 1) := by decide +kernel
theorem dL_law_520 : decode cL_law 520 = .ok (.ireturn, 1) := by decide +kernel
theorem dL_law_521 : decode cL_law 521 = .ok (.aload_n 1, 1) := by decide +kernel
theorem dL_law_522 : decode cL_law 522 = .ok (.aload_n 0, 1) := by decide +kernel
theorem dL_law_523 : decode cL_law 523 = .ok (.iload_n 3, 1) := by decide +kernel
theorem dL_law_524 : decode cL_law 524 = .ok (.iconst 1, 1) := by decide +kernel
theorem dL_law_525 : decode cL_law 525 = .ok (.iadd, 1) := by decide +kernel
theorem dL_law_526 : decode cL_law 526 = .ok (.iaload, 1) := by decide +kernel
theorem dL_law_527 : decode cL_law 527 = .ok (.invokevirtual 70, 3) := by decide +kernel
theorem dL_law_530 : decode cL_law 530 = .ok (.aload_n 2, 1) := by decide +kernel
theorem dL_law_531 : decode cL_law 531 = .ok (.aload_n 0, 1) := by decide +kernel
theorem dL_law_532 : decode cL_law 532 = .ok (.iload_n 3, 1) := by decide +kernel
theorem dL_law_533 : decode cL_law 533 = .ok (.iconst 1, 1) := by decide +kernel
theorem dL_law_534 : decode cL_law 534 = .ok (.iadd, 1) := by decide +kernel
theorem dL_law_535 : decode cL_law 535 = .ok (.iaload, 1) := by decide +kernel
theorem dL_law_536 : decode cL_law 536 = .ok (.invokevirtual 73, 3) := by decide +kernel
theorem dL_law_539 : decode cL_law 539 = .ok (.if_icmp .eq 609, 3) := by decide +kernel
theorem dL_law_542 : decode cL_law 542 = .ok (.iconst 0, 1) := by decide +kernel
theorem dL_law_543 : decode cL_law 543 = .ok (.ireturn, 1) := by decide +kernel
theorem dL_law_544 : decode cL_law 544 = .ok (.aload_n 1, 1) := by decide +kernel
theorem dL_law_545 : decode cL_law 545 = .ok (.aload_n 0, 1) := by decide +kernel
theorem dL_law_546 : decode cL_law 546 = .ok (.iload_n 3, 1) := by decide +kernel
theorem dL_law_547 : decode cL_law 547 = .ok (.iconst 1, 1) := by decide +kernel
theorem dL_law_548 : decode cL_law 548 = .ok (.iadd, 1) := by decide +kernel
theorem dL_law_549 : decode cL_law 549 = .ok (.iaload, 1) := by decide +kernel
theorem dL_law_550 : decode cL_law 550 = .ok (.invokevirtual 74, 3) := by decide +kernel
theorem dL_law_553 : decode cL_law 553 = .ok (.aload_n 2, 1) := by decide +kernel
theorem dL_law_554 : decode cL_law 554 = .ok (.aload_n 0, 1) := by decide +kernel
theorem dL_law_555 : decode cL_law 555 = .ok (.iload_n 3, 1) := by decide +kernel
theorem dL_law_556 : decode cL_law 556 = .ok (.iconst 1, 1) := by decide +kernel
theorem dL_law_557 : decode cL_law 557 = .ok (.iadd, 1) := by decide +kernel
theorem dL_law_558 : decode cL_law 558 = .ok (.iaload, 1) := by decide +kernel
theorem dL_law_559 : decode cL_law 559 = .ok (.invokevirtual 77, 3) := by decide +kernel
theorem dL_law_562 : decode cL_law 562 = .ok (.if_icmp .eq 586, 3) := by decide +kernel
theorem dL_law_565 : decode cL_law 565 = .ok (.iconst 0, 1) := by decide +kernel
theorem dL_law_566 : decode cL_law 566 = .ok (.ireturn, 1) := by decide +kernel
theorem dL_law_567 : decode cL_law 567 = .ok (.aload_n 1, 1) := by decide +kernel
theorem dL_law_568 : decode cL_law 568 = .ok (.aload_n 0, 1) := by decide +kernel
theorem dL_law_569 : decode cL_law 569 = .ok (.iload_n 3, 1) := by decide +kernel
theorem dL_law_570 : decode cL_law 570 = .ok (.iconst 1, 1) := by decide +kernel
theorem dL_law_571 : decode cL_law 571 = .ok (.iadd, 1) := by decide +kernel
theorem dL_law_572 : decode cL_law 572 = .ok (.iaload, 1) := by decide +kernel
theorem dL_law_573 : decode cL_law 573 = .ok (.invokevirtual 78, 3) := by decide +kernel
theorem dL_law_576 : decode cL_law 576 = .ok (.aload_n 2, 1) := by decide +kernel
theorem dL_law_577 : decode cL_law 577 = .ok (.aload_n 0, 1) := by decide +kernel
theorem dL_law_578 : decode cL_law 578 = .ok (.iload_n 3, 1) := by decide +kernel
theorem dL_law_579 : decode cL_law 579 = .ok (.iconst 1, 1) := by decide +kernel
theorem dL_law_580 : decode cL_law 580 = .ok (.iadd, 1) := by decide +kernel
theorem dL_law_581 : decode cL_law 581 = .ok (.iaload, 1) := by decide +kernel
theorem dL_law_582 : decode cL_law 582 = .ok (.invokevirtual 81, 3) := by decide +kernel
theorem dL_law_585 : decode cL_law 585 = .ok (.if_icmp .eq 563, 3) := by decide +kernel
theorem dL_law_588 : decode cL_law 588 = .ok (.iconst 0, 1) := by decide +kernel
theorem dL_law_589 : decode cL_law 589 = .ok (.ireturn, 1) := by decide +kernel
theorem dL_law_590 : decode cL_law 590 = .ok (.aload_n 1, 1) := by decide +kernel
theorem dL_law_591 : decode cL_law 591 = .ok (.aload_n 0, 1) := by decide +kernel
theorem dL_law_592 : decode cL_law 592 = .ok (.iload_n 3, 1) := by decide +kernel
theorem dL_law_593 : decode cL_law 593 = .ok (.iconst 1, 1) := by decide +kernel
theorem dL_law_594 : decode cL_law 594 = .ok (.iadd, 1) := by decide +kernel
theorem dL_law_595 : decode cL_law 595 = .ok (.iaload, 1) := by decide +kernel
theorem dL_law_596 : decode cL_law 596 = .ok (.aload_n 0, 1) := by decide +kernel
theorem dL_law_597 : decode cL_law 597 = .ok (.iload_n 3, 1) := by decide +kernel
theorem dL_law_598 : decode cL_law 598 = .ok (.iconst 2, 1) := by decide +kernel
theorem dL_law_599 : decode cL_law 599 = .ok (.iadd, 1) := by decide +kernel
theorem dL_law_600 : decode cL_law 600 = .ok (.iaload, 1) := by decide +kernel
theorem dL_law_601 : decode cL_law 601 = .ok (.invokevirtual 82, 3) := by decide +kernel
theorem dL_law_604 : decode cL_law 604 = .ok (.aload_n 2, 1) := by decide +kernel
theorem dL_law_605 : decode cL_law 605 = .ok (.aload_n 0, 1) := by decide +kernel
theorem dL_law_606 : decode cL_law 606 = .ok (.iload_n 3, 1) := by decide +kernel
theorem dL_law_607 : decode cL_law 607 = .ok (.iconst 1, 1) := by decide +kernel
theorem dL_law_608 : decode cL_law 608 = .ok (.iadd, 1) := by decide +kernel
theorem dL_law_609 : decode cL_law 609 = .ok (.iaload, 1) := by decide +kernel
theorem dL_law_610 : decode cL_law 610 = .ok (.aload_n 0, 1) := by decide +kernel
theorem dL_law_611 : decode cL_law 611 = .ok (.iload_n 3, 1) := by decide +kernel
theorem dL_law_612 : decode cL_law 612 = .ok (.iconst 2, 1) := by decide +kernel
theorem dL_law_613 : decode cL_law 613 = .ok (.iadd, 1) := by decide +kernel
theorem dL_law_614 : decode cL_law 614 = .ok (.iaload, 1) := by decide +kernel
theorem dL_law_615 : decode cL_law 615 = .ok (.invokevirtual 85, 3) := by decide +kernel
theorem dL_law_618 : decode cL_law 618 = .ok (.if_icmp .eq 530, 3) := by decide +kernel
theorem dL_law_621 : decode cL_law 621 = .ok (.iconst 0, 1) := by decide +kernel
theorem dL_law_622 : decode cL_law 622 = .ok (.ireturn, 1) := by decide +kernel
theorem dL_law_623 : decode cL_law 623 = .ok (.aload_n 1, 1) := by decide +kernel
theorem dL_law_624 : decode cL_law 624 = .ok (.aload_n 0, 1) := by decide +kernel
theorem dL_law_625 : decode cL_law 625 = .ok (.iload_n 3, 1) := by decide +kernel
theorem dL_law_626 : decode cL_law 626 = .ok (.iconst 1, 1) := by decide +kernel
theorem dL_law_627 : decode cL_law 627 = .ok (.iadd, 1) := by decide +kernel
theorem dL_law_628 : decode cL_law 628 = .ok (.iaload, 1) := by decide +kernel
theorem dL_law_629 : decode cL_law 629 = .ok (.aload_n 0, 1) := by decide +kernel
theorem dL_law_630 : decode cL_law 630 = .ok (.iload_n 3, 1) := by decide +kernel
theorem dL_law_631 : decode cL_law 631 = .ok (.iconst 2, 1) := by decide +kernel
theorem dL_law_632 : decode cL_law 632 = .ok (.iadd, 1) := by decide +kernel
theorem dL_law_633 : decode cL_law 633 = .ok (.iaload, 1) := by decide +kernel
theorem dL_law_634 : decode cL_law 634 = .ok (.aload_n 0, 1) := by decide +kernel
theorem dL_law_635 : decode cL_law 635 = .ok (.iload_n 3, 1) := by decide +kernel
theorem dL_law_636 : decode cL_law 636 = .ok (.iconst 3, 1) := by decide +kernel
theorem dL_law_637 : decode cL_law 637 = .ok (.iadd, 1) := by decide +kernel
theorem dL_law_638 : decode cL_law 638 = .ok (.iaload, 1) := by decide +kernel
theorem dL_law_639 : decode cL_law 639 = .ok (.aload_n 0, 1) := by decide +kernel
theorem dL_law_640 : decode cL_law 640 = .ok (.iload_n 3, 1) := by decide +kernel
theorem dL_law_641 : decode cL_law 641 = .ok (.iconst 4, 1) := by decide +kernel
theorem dL_law_642 : decode cL_law 642 = .ok (.iadd, 1) := by decide +kernel
theorem dL_law_643 : decode cL_law 643 = .ok (.iaload, 1) := by decide +kernel
theorem dL_law_644 : decode cL_law 644 = .ok (.invokevirtual 86, 3) := by decide +kernel
theorem dL_law_647 : decode cL_law 647 = .ok (.aload_n 2, 1) := by decide +kernel
theorem dL_law_648 : decode cL_law 648 = .ok (.aload_n 0, 1) := by decide +kernel
theorem dL_law_649 : decode cL_law 649 = .ok (.iload_n 3, 1) := by decide +kernel
theorem dL_law_650 : decode cL_law 650 = .ok (.iconst 1, 1) := by decide +kernel
theorem dL_law_651 : decode cL_law 651 = .ok (.iadd, 1) := by decide +kernel
theorem dL_law_652 : decode cL_law 652 = .ok (.iaload, 1) := by decide +kernel
theorem dL_law_653 : decode cL_law 653 = .ok (.aload_n 0, 1) := by decide +kernel
theorem dL_law_654 : decode cL_law 654 = .ok (.iload_n 3, 1) := by decide +kernel
theorem dL_law_655 : decode cL_law 655 = .ok (.iconst 2, 1) := by decide +kernel
theorem dL_law_656 : decode cL_law 656 = .ok (.iadd, 1) := by decide +kernel
theorem dL_law_657 : decode cL_law 657 = .ok (.iaload, 1) := by decide +kernel
theorem dL_law_658 : decode cL_law 658 = .ok (.aload_n 0, 1) := by decide +kernel
theorem dL_law_659 : decode cL_law 659 = .ok (.iload_n 3, 1) := by decide +kernel
theorem dL_law_660 : decode cL_law 660 = .ok (.iconst 3, 1) := by decide +kernel
theorem dL_law_661 : decode cL_law 661 = .ok (.iadd, 1) := by decide +kernel
theorem dL_law_662 : decode cL_law 662 = .ok (.iaload, 1) := by decide +kernel
theorem dL_law_663 : decode cL_law 663 = .ok (.aload_n 0, 1) := by decide +kernel
theorem dL_law_664 : decode cL_law 664 = .ok (.iload_n 3, 1) := by decide +kernel
theorem dL_law_665 : decode cL_law 665 = .ok (.iconst 4, 1) := by decide +kernel
theorem dL_law_666 : decode cL_law 666 = .ok (.iadd, 1) := by decide +kernel
theorem dL_law_667 : decode cL_law 667 = .ok (.iaload, 1) := by decide +kernel
theorem dL_law_668 : decode cL_law 668 = .ok (.invokevirtual 90, 3) := by decide +kernel
theorem dL_law_671 : decode cL_law 671 = .ok (.if_icmp .eq 477, 3) := by decide +kernel
theorem dL_law_674 : decode cL_law 674 = .ok (.iconst 0, 1) := by decide +kernel
theorem dL_law_675 : decode cL_law 675 = .ok (.ireturn, 1) := by decide +kernel
theorem dL_law_676 : decode cL_law 676 = .ok (.aload_n 1, 1) := by decide +kernel
theorem dL_law_677 : decode cL_law 677 = .ok (.aload_n 0, 1) := by decide +kernel
theorem dL_law_678 : decode cL_law 678 = .ok (.iload_n 3, 1) := by decide +kernel
theorem dL_law_679 : decode cL_law 679 = .ok (.iconst 1, 1) := by decide +kernel
theorem dL_law_680 : decode cL_law 680 = .ok (.iadd, 1) := by decide +kernel
theorem dL_law_681 : decode cL_law 681 = .ok (.iaload, 1) := by decide +kernel
theorem dL_law_682 : decode cL_law 682 = .ok (.invokevirtual 91, 3) := by decide +kernel
theorem dL_law_685 : decode cL_law 685 = .ok (.aload_n 2, 1) := by decide +kernel
theorem dL_law_686 : decode cL_law 686 = .ok (.aload_n 0, 1) := by decide +kernel
theorem dL_law_687 : decode cL_law 687 = .ok (.iload_n 3, 1) := by decide +kernel
theorem dL_law_688 : decode cL_law 688 = .ok (.iconst 1, 1) := by decide +kernel
theorem dL_law_689 : decode cL_law 689 = .ok (.iadd, 1) := by decide +kernel
theorem dL_law_690 : decode cL_law 690 = .ok (.iaload, 1) := by decide +kernel
theorem dL_law_691 : decode cL_law 691 = .ok (.invokevirtual 94, 3) := by decide +kernel
theorem dL_law_694 : decode cL_law 694 = .ok (.if_icmp .eq 454, 3) := by decide +kernel
theorem dL_law_697 : decode cL_law 697 = .ok (.iconst 0, 1) := by decide +kernel
theorem dL_law_698 : decode cL_law 698 = .ok (.ireturn, 1) := by decide +kernel
theorem dL_law_699 : decode cL_law 699 = .ok (.aload_n 1, 1) := by decide +kernel
theorem dL_law_700 : decode cL_law 700 = .ok (.invokevirtual 95, 3) := by decide +kernel
theorem dL_law_703 : decode cL_law 703 = .ok (.aload_n 2, 1) := by decide +kernel
theorem dL_law_704 : decode cL_law 704 = .ok (.invokevirtual 99, 3) := by decide +kernel
theorem dL_law_707 : decode cL_law 707 = .ok (.lcmp, 1) := by decide +kernel
theorem dL_law_708 : decode cL_law 708 = .ok (.ifCond .eq 440, 3) := by decide +kernel
theorem dL_law_711 : decode cL_law 711 = .ok (.iconst 0, 1) := by decide +kernel
theorem dL_law_712 : decode cL_law 712 = .ok (.ireturn, 1) := by decide +kernel
theorem dL_law_713 : decode cL_law 713 = .ok (.aload_n 1, 1) := by decide +kernel
theorem dL_law_714 : decode cL_law 714 = .ok (.invokevirtual 100, 3) := by decide +kernel
theorem dL_law_717 : decode cL_law 717 = .ok (.aload_n 2, 1) := by decide +kernel
theorem dL_law_718 : decode cL_law 718 = .ok (.invokevirtual 103, 3) := by decide +kernel
theorem dL_law_721 : decode cL_law 721 = .ok (.if_icmp .eq 427, 3) := by decide +kernel
theorem dL_law_724 : decode cL_law 724 = .ok (.iconst 0, 1) := by decide +kernel
theorem dL_law_725 : decode cL_law 725 = .ok (.ireturn, 1) := by decide +kernel
theorem dL_law_726 : decode cL_law 726 = .ok (.aload_n 1, 1) := by decide +kernel
theorem dL_law_727 : decode cL_law 727 = .ok (.invokevirtual 104, 3) := by decide +kernel
theorem dL_law_730 : decode cL_law 730 = .ok (.aload_n 2, 1) := by decide +kernel
theorem dL_law_731 : decode cL_law 731 = .ok (.invokevirtual 107, 3) := by decide +kernel
theorem dL_law_734 : decode cL_law 734 = .ok (.if_icmp .eq 414, 3) := by decide +kernel
theorem dL_law_737 : decode cL_law 737 = .ok (.iconst 0, 1) := by decide +kernel
theorem dL_law_738 : decode cL_law 738 = .ok (.ireturn, 1) := by decide +kernel
theorem dL_law_739 : decode cL_law 739 = .ok (.aload_n 1, 1) := by decide +kernel
theorem dL_law_740 : decode cL_law 740 = .ok (.aload_n 0, 1) := by decide +kernel
theorem dL_law_741 : decode cL_law 741 = .ok (.iload_n 3, 1) := by decide +kernel
theorem dL_law_742 : decode cL_law 742 = .ok (.iconst 1, 1) := by decide +kernel
theorem dL_law_743 : decode cL_law 743 = .ok (.iadd, 1) := by decide +kernel
theorem dL_law_744 : decode cL_law 744 = .ok (.iaload, 1) := by decide +kernel
theorem dL_law_745 : decode cL_law 745 = .ok (.aload_n 0, 1) := by decide +kernel
theorem dL_law_746 : decode cL_law 746 = .ok (.iload_n 3, 1) := by decide +kernel
theorem dL_law_747 : decode cL_law 747 = .ok (.iconst 2, 1) := by decide +kernel
theorem dL_law_748 : decode cL_law 748 = .ok (.iadd, 1) := by decide +kernel
theorem dL_law_749 : decode cL_law 749 = .ok (.iaload, 1) := by decide +kernel
theorem dL_law_750 : decode cL_law 750 = .ok (.invokevirtual 108, 3) := by decide +kernel
theorem dL_law_753 : decode cL_law 753 = .ok (.aload_n 2, 1) := by decide +kernel
theorem dL_law_754 : decode cL_law 754 = .ok (.aload_n 0, 1) := by decide +kernel
theorem dL_law_755 : decode cL_law 755 = .ok (.iload_n 3, 1) := by decide +kernel
theorem dL_law_756 : decode cL_law 756 = .ok (.iconst 1, 1) := by decide +kernel
theorem dL_law_757 : decode cL_law 757 = .ok (.iadd, 1) := by decide +kernel
theorem dL_law_758 : decode cL_law 758 = .ok (.iaload, 1) := by decide +kernel
theorem dL_law_759 : decode cL_law 759 = .ok (.aload_n 0, 1) := by decide +kernel
theorem dL_law_760 : decode cL_law 760 = .ok (.iload_n 3, 1) := by decide +kernel
theorem dL_law_761 : decode cL_law 761 = .ok (.iconst 2, 1) := by decide +kernel
theorem dL_law_762 : decode cL_law 762 = .ok (.iadd, 1) := by decide +kernel
theorem dL_law_763 : decode cL_law 763 = .ok (.iaload, 1) := by decide +kernel
theorem dL_law_764 : decode cL_law 764 = .ok (.invokevirtual 111, 3) := by decide +kernel
theorem dL_law_767 : decode cL_law 767 = .ok (.if_icmp .eq 381, 3) := by decide +kernel
theorem dL_law_770 : decode cL_law 770 = .ok (.iconst 0, 1) := by decide +kernel
theorem dL_law_771 : decode cL_law 771 = .ok (.ireturn, 1) := by decide +kernel
theorem dL_law_772 : decode cL_law 772 = .ok (.aload_n 1, 1) := by decide +kernel
theorem dL_law_773 : decode cL_law 773 = .ok (.invokevirtual 112, 3) := by decide +kernel
theorem dL_law_776 : decode cL_law 776 = .ok (.aload_n 2, 1) := by decide +kernel
theorem dL_law_777 : decode cL_law 777 = .ok (.invokevirtual 115, 3) := by decide +kernel
theorem dL_law_780 : decode cL_law 780 = .ok (.if_icmp .eq 368, 3) := by decide +kernel
theorem dL_law_783 : decode cL_law 783 = .ok (.iconst 0, 1) := by decide +kernel
theorem dL_law_784 : decode cL_law 784 = .ok (.ireturn, 1) := by decide +kernel
theorem dL_law_785 : decode cL_law 785 = .ok (.aload_n 1, 1) := by decide +kernel
theorem dL_law_786 : decode cL_law 786 = .ok (.invokevirtual 116, 3) := by decide +kernel
theorem dL_law_789 : decode cL_law 789 = .ok (.aload_n 2, 1) := by decide +kernel
theorem dL_law_790 : decode cL_law 790 = .ok (.invokevirtual 119, 3) := by decide +kernel
theorem dL_law_793 : decode cL_law 793 = .ok (.if_icmp .eq 355, 3) := by decide +kernel
theorem dL_law_796 : decode cL_law 796 = .ok (.iconst 0, 1) := by decide +kernel
theorem dL_law_797 : decode cL_law 797 = .ok (.ireturn, 1) := by decide +kernel
theorem dL_law_798 : decode cL_law 798 = .ok (.aload_n 1, 1) := by decide +kernel
theorem dL_law_799 : decode cL_law 799 = .ok (.aload_n 0, 1) := by decide +kernel
theorem dL_law_800 : decode cL_law 800 = .ok (.iload_n 3, 1) := by decide +kernel
theorem dL_law_801 : decode cL_law 801 = .ok (.iconst 1, 1) := by decide +kernel
theorem dL_law_802 : decode cL_law 802 = .ok (.iadd, 1) := by decide +kernel
theorem dL_law_803 : decode cL_law 803 = .ok (.iaload, 1) := by decide +kernel
theorem dL_law_804 : decode cL_law 804 = .ok (.aload_n 0, 1) := by decide +kernel
theorem dL_law_805 : decode cL_law 805 = .ok (.iload_n 3, 1) := by decide +kernel
theorem dL_law_806 : decode cL_law 806 = .ok (.iconst 2, 1) := by decide +kernel
theorem dL_law_807 : decode cL_law 807 = .ok (.iadd, 1) := by decide +kernel
theorem dL_law_808 : decode cL_law 808 = .ok (.iaload, 1) := by decide +kernel
theorem dL_law_809 : decode cL_law 809 = .ok (.invokevirtual 120, 3) := by decide +kernel
theorem dL_law_812 : decode cL_law 812 = .ok (.aload_n 2, 1) := by decide +kernel
theorem dL_law_813 : decode cL_law 813 = .ok (.aload_n 0, 1) := by decide +kernel
theorem dL_law_814 : decode cL_law 814 = .ok (.iload_n 3, 1) := by decide +kernel
theorem dL_law_815 : decode cL_law 815 = .ok (.iconst 1, 1) := by decide +kernel
theorem dL_law_816 : decode cL_law 816 = .ok (.iadd, 1) := by decide +kernel
theorem dL_law_817 : decode cL_law 817 = .ok (.iaload, 1) := by decide +kernel
theorem dL_law_818 : decode cL_law 818 = .ok (.aload_n 0, 1) := by decide +kernel
theorem dL_law_819 : decode cL_law 819 = .ok (.iload_n 3, 1) := by decide +kernel
theorem dL_law_820 : decode cL_law 820 = .ok (.iconst 2, 1) := by decide +kernel
theorem dL_law_821 : decode cL_law 821 = .ok (.iadd, 1) := by decide +kernel
theorem dL_law_822 : decode cL_law 822 = .ok (.iaload, 1) := by decide +kernel
theorem dL_law_823 : decode cL_law 823 = .ok (.invokevirtual 123, 3) := by decide +kernel
theorem dL_law_826 : decode cL_law 826 = .ok (.if_icmp .eq 322, 3) := by decide +kernel
theorem dL_law_829 : decode cL_law 829 = .ok (.iconst 0, 1) := by decide +kernel
theorem dL_law_830 : decode cL_law 830 = .ok (.ireturn, 1) := by decide +kernel
theorem dL_law_831 : decode cL_law 831 = .ok (.aload_n 1, 1) := by decide +kernel
theorem dL_law_832 : decode cL_law 832 = .ok (.aload_n 0, 1) := by decide +kernel
theorem dL_law_833 : decode cL_law 833 = .ok (.iload_n 3, 1) := by decide +kernel
theorem dL_law_834 : decode cL_law 834 = .ok (.iconst 1, 1) := by decide +kernel
theorem dL_law_835 : decode cL_law 835 = .ok (.iadd, 1) := by decide +kernel
theorem dL_law_836 : decode cL_law 836 = .ok (.iaload, 1) := by decide +kernel
theorem dL_law_837 : decode cL_law 837 = .ok (.invokevirtual 124, 3) := by decide +kernel
theorem dL_law_840 : decode cL_law 840 = .ok (.aload_n 2, 1) := by decide +kernel
theorem dL_law_841 : decode cL_law 841 = .ok (.aload_n 0, 1) := by decide +kernel
theorem dL_law_842 : decode cL_law 842 = .ok (.iload_n 3, 1) := by decide +kernel
theorem dL_law_843 : decode cL_law 843 = .ok (.iconst 1, 1) := by decide +kernel
theorem dL_law_844 : decode cL_law 844 = .ok (.iadd, 1) := by decide +kernel
theorem dL_law_845 : decode cL_law 845 = .ok (.iaload, 1) := by decide +kernel
theorem dL_law_846 : decode cL_law 846 = .ok (.invokevirtual 127, 3) := by decide +kernel
theorem dL_law_849 : decode cL_law 849 = .ok (.if_icmp .eq 299, 3) := by decide +kernel
theorem dL_law_852 : decode cL_law 852 = .ok (.iconst 0, 1) := by decide +kernel
theorem dL_law_853 : decode cL_law 853 = .ok (.ireturn, 1) := by decide +kernel
theorem dL_law_854 : decode cL_law 854 = .ok (.aload_n 1, 1) := by decide +kernel
theorem dL_law_855 : decode cL_law 855 = .ok (.aload_n 0, 1) := by decide +kernel
theorem dL_law_856 : decode cL_law 856 = .ok (.iload_n 3, 1) := by decide +kernel
theorem dL_law_857 : decode cL_law 857 = .ok (.iconst 1, 1) := by decide +kernel
theorem dL_law_858 : decode cL_law 858 = .ok (.iadd, 1) := by decide +kernel
theorem dL_law_859 : decode cL_law 859 = .ok (.iaload, 1) := by decide +kernel
theorem dL_law_860 : decode cL_law 860 = .ok (.aload_n 0, 1) := by decide +kernel
theorem dL_law_861 : decode cL_law 861 = .ok (.iload_n 3, 1) := by decide +kernel
theorem dL_law_862 : decode cL_law 862 = .ok (.iconst 2, 1) := by decide +kernel
theorem dL_law_863 : decode cL_law 863 = .ok (.iadd, 1) := by decide +kernel
theorem dL_law_864 : decode cL_law 864 = .ok (.iaload, 1) := by decide +kernel
theorem dL_law_865 : decode cL_law 865 = .ok (.invokevirtual 128, 3) := by decide +kernel
theorem dL_law_868 : decode cL_law 868 = .ok (.aload_n 2, 1) := by decide +kernel
theorem dL_law_869 : decode cL_law 869 = .ok (.aload_n 0, 1) := by decide +kernel
theorem dL_law_870 : decode cL_law 870 = .ok (.iload_n 3, 1) := by decide +kernel
theorem dL_law_871 : decode cL_law 871 = .ok (.iconst 1, 1) := by decide +kernel
theorem dL_law_872 : decode cL_law 872 = .ok (.iadd, 1) := by decide +kernel
theorem dL_law_873 : decode cL_law 873 = .ok (.iaload, 1) := by decide +kernel
theorem dL_law_874 : decode cL_law 874 = .ok (.aload_n 0, 1) := by decide +kernel
theorem dL_law_875 : decode cL_law 875 = .ok (.iload_n 3, 1) := by decide +kernel
theorem dL_law_876 : decode cL_law 876 = .ok (.iconst 2, 1) := by decide +kernel
theorem dL_law_877 : decode cL_law 877 = .ok (.iadd, 1) := by decide +kernel
theorem dL_law_878 : decode cL_law 878 = .ok (.iaload, 1) := by decide +kernel
theorem dL_law_879 : decode cL_law 879 = .ok (.invokevirtual 131, 3) := by decide +kernel
theorem dL_law_882 : decode cL_law 882 = .ok (.if_icmp .eq 266, 3) := by decide +kernel
theorem dL_law_885 : decode cL_law 885 = .ok (.iconst 0, 1) := by decide +kernel
theorem dL_law_886 : decode cL_law 886 = .ok (.ireturn, 1) := by decide +kernel
theorem dL_law_887 : decode cL_law 887 = .ok (.aload_n 1, 1) := by decide +kernel
theorem dL_law_888 : decode cL_law 888 = .ok (.aload_n 0, 1) := by decide +kernel
theorem dL_law_889 : decode cL_law 889 = .ok (.iload_n 3, 1) := by decide +kernel
theorem dL_law_890 : decode cL_law 890 = .ok (.iconst 1, 1) := by decide +kernel
theorem dL_law_891 : decode cL_law 891 = .ok (.iadd, 1) := by decide +kernel
theorem dL_law_892 : decode cL_law 892 = .ok (.iaload, 1) := by decide +kernel
theorem dL_law_893 : decode cL_law 893 = .ok (.invokevirtual 132, 3) := by decide +kernel
theorem dL_law_896 : decode cL_law 896 = .ok (.aload_n 2, 1) := by decide +kernel
theorem dL_law_897 : decode cL_law 897 = .ok (.aload_n 0, 1) := by decide +kernel
theorem dL_law_898 : decode cL_law 898 = .ok (.iload_n 3, 1) := by decide +kernel
theorem dL_law_899 : decode cL_law 899 = .ok (.iconst 1, 1) := by decide +kernel
theorem dL_law_900 : decode cL_law 900 = .ok (.iadd, 1) := by decide +kernel
theorem dL_law_901 : decode cL_law 901 = .ok (.iaload, 1) := by decide +kernel
theorem dL_law_902 : decode cL_law 902 = .ok (.invokevirtual 135, 3) := by decide +kernel
theorem dL_law_905 : decode cL_law 905 = .ok (.if_icmp .eq 243, 3) := by decide +kernel
theorem dL_law_908 : decode cL_law 908 = .ok (.iconst 0, 1) := by decide +kernel
theorem dL_law_909 : decode cL_law 909 = .ok (.ireturn, 1) := by decide +kernel
theorem dL_law_910 : decode cL_law 910 = .ok (.aload_n 1, 1) := by decide +kernel
theorem dL_law_911 : decode cL_law 911 = .ok (.aload_n 0, 1) := by decide +kernel
theorem dL_law_912 : decode cL_law 912 = .ok (.iload_n 3, 1) := by decide +kernel
theorem dL_law_913 : decode cL_law 913 = .ok (.iconst 1, 1) := by decide +kernel
theorem dL_law_914 : decode cL_law 914 = .ok (.iadd, 1) := by decide +kernel
theorem dL_law_915 : decode cL_law 915 = .ok (.iaload, 1) := by decide +kernel
theorem dL_law_916 : decode cL_law 916 = .ok (.aload_n 0, 1) := by decide +kernel
theorem dL_law_917 : decode cL_law 917 = .ok (.iload_n 3, 1) := by decide +kernel
theorem dL_law_918 : decode cL_law 918 = .ok (.iconst 2, 1) := by decide +kernel
theorem dL_law_919 : decode cL_law 919 = .ok (.iadd, 1) := by decide +kernel
theorem dL_law_920 : decode cL_law 920 = .ok (.iaload, 1) := by decide +kernel
theorem dL_law_921 : decode cL_law 921 = .ok (.invokevirtual 136, 3) := by decide +kernel
theorem dL_law_924 : decode cL_law 924 = .ok (.aload_n 2, 1) := by decide +kernel
theorem dL_law_925 : decode cL_law 925 = .ok (.aload_n 0, 1) := by decide +kernel
theorem dL_law_926 : decode cL_law 926 = .ok (.iload_n 3, 1) := by decide +kernel
theorem dL_law_927 : decode cL_law 927 = .ok (.iconst 1, 1) := by decide +kernel
theorem dL_law_928 : decode cL_law 928 = .ok (.iadd, 1) := by decide +kernel
theorem dL_law_929 : decode cL_law 929 = .ok (.iaload, 1) := by decide +kernel
theorem dL_law_930 : decode cL_law 930 = .ok (.aload_n 0, 1) := by decide +kernel
theorem dL_law_931 : decode cL_law 931 = .ok (.iload_n 3, 1) := by decide +kernel
theorem dL_law_932 : decode cL_law 932 = .ok (.iconst 2, 1) := by decide +kernel
theorem dL_law_933 : decode cL_law 933 = .ok (.iadd, 1) := by decide +kernel
theorem dL_law_934 : decode cL_law 934 = .ok (.iaload, 1) := by decide +kernel
theorem dL_law_935 : decode cL_law 935 = .ok (.invokevirtual 139, 3) := by decide +kernel
theorem dL_law_938 : decode cL_law 938 = .ok (.if_icmp .eq 210, 3) := by decide +kernel
theorem dL_law_941 : decode cL_law 941 = .ok (.iconst 0, 1) := by decide +kernel
theorem dL_law_942 : decode cL_law 942 = .ok (.ireturn, 1) := by decide +kernel
theorem dL_law_943 : decode cL_law 943 = .ok (.aload_n 1, 1) := by decide +kernel
theorem dL_law_944 : decode cL_law 944 = .ok (.aload_n 0, 1) := by decide +kernel
theorem dL_law_945 : decode cL_law 945 = .ok (.iload_n 3, 1) := by decide +kernel
theorem dL_law_946 : decode cL_law 946 = .ok (.iconst 1, 1) := by decide +kernel
theorem dL_law_947 : decode cL_law 947 = .ok (.iadd, 1) := by decide +kernel
theorem dL_law_948 : decode cL_law 948 = .ok (.iaload, 1) := by decide +kernel
theorem dL_law_949 : decode cL_law 949 = .ok (.invokevirtual 140, 3) := by decide +kernel
theorem dL_law_952 : decode cL_law 952 = .ok (.aload_n 2, 1) := by decide +kernel
theorem dL_law_953 : decode cL_law 953 = .ok (.aload_n 0, 1) := by decide +kernel
theorem dL_law_954 : decode cL_law 954 = .ok (.iload_n 3, 1) := by decide +kernel
theorem dL_law_955 : decode cL_law 955 = .ok (.iconst 1, 1) := by decide +kernel
theorem dL_law_956 : decode cL_law 956 = .ok (.iadd, 1) := by decide +kernel
theorem dL_law_957 : decode cL_law 957 = .ok (.iaload, 1) := by decide +kernel
theorem dL_law_958 : decode cL_law 958 = .ok (.invokevirtual 143, 3) := by decide +kernel
theorem dL_law_961 : decode cL_law 961 = .ok (.if_icmp .eq 187, 3) := by decide +kernel
theorem dL_law_964 : decode cL_law 964 = .ok (.iconst 0, 1) := by decide +kernel
theorem dL_law_965 : decode cL_law 965 = .ok (.ireturn, 1) := by decide +kernel
theorem dL_law_966 : decode cL_law 966 = .ok (.aload_n 1, 1) := by decide +kernel
theorem dL_law_967 : decode cL_law 967 = .ok (.aload_n 0, 1) := by decide +kernel
theorem dL_law_968 : decode cL_law 968 = .ok (.iload_n 3, 1) := by decide +kernel
theorem dL_law_969 : decode cL_law 969 = .ok (.iconst 1, 1) := by decide +kernel
theorem dL_law_970 : decode cL_law 970 = .ok (.iadd, 1) := by decide +kernel
theorem dL_law_971 : decode cL_law 971 = .ok (.iaload, 1) := by decide +kernel
theorem dL_law_972 : decode cL_law 972 = .ok (.aload_n 0, 1) := by decide +kernel
theorem dL_law_973 : decode cL_law 973 = .ok (.iload_n 3, 1) := by decide +kernel
theorem dL_law_974 : decode cL_law 974 = .ok (.iconst 2, 1) := by decide +kernel
theorem dL_law_975 : decode cL_law 975 = .ok (.iadd, 1) := by decide +kernel
theorem dL_law_976 : decode cL_law 976 = .ok (.iaload, 1) := by decide +kernel
theorem dL_law_977 : decode cL_law 977 = .ok (.invokevirtual 144, 3) := by decide +kernel
theorem dL_law_980 : decode cL_law 980 = .ok (.aload_n 2, 1) := by decide +kernel
theorem dL_law_981 : decode cL_law 981 = .ok (.aload_n 0, 1) := by decide +kernel
theorem dL_law_982 : decode cL_law 982 = .ok (.iload_n 3, 1) := by decide +kernel
theorem dL_law_983 : decode cL_law 983 = .ok (.iconst 1, 1) := by decide +kernel
theorem dL_law_984 : decode cL_law 984 = .ok (.iadd, 1) := by decide +kernel
theorem dL_law_985 : decode cL_law 985 = .ok (.iaload, 1) := by decide +kernel
theorem dL_law_986 : decode cL_law 986 = .ok (.aload_n 0, 1) := by decide +kernel
theorem dL_law_987 : decode cL_law 987 = .ok (.iload_n 3, 1) := by decide +kernel
theorem dL_law_988 : decode cL_law 988 = .ok (.iconst 2, 1) := by decide +kernel
theorem dL_law_989 : decode cL_law 989 = .ok (.iadd, 1) := by decide +kernel
theorem dL_law_990 : decode cL_law 990 = .ok (.iaload, 1) := by decide +kernel
theorem dL_law_991 : decode cL_law 991 = .ok (.invokevirtual 147, 3) := by decide +kernel
theorem dL_law_994 : decode cL_law 994 = .ok (.if_icmp .eq 154, 3) := by decide +kernel
theorem dL_law_997 : decode cL_law 997 = .ok (.iconst 0, 1) := by decide +kernel
theorem dL_law_998 : decode cL_law 998 = .ok (.ireturn, 1) := by decide +kernel
theorem dL_law_999 : decode cL_law 999 = .ok (.aload_n 1, 1) := by decide +kernel
theorem dL_law_1000 : decode cL_law 1000 = .ok (.aload_n 0, 1) := by decide +kernel
theorem dL_law_1001 : decode cL_law 1001 = .ok (.iload_n 3, 1) := by decide +kernel
theorem dL_law_1002 : decode cL_law 1002 = .ok (.iconst 1, 1) := by decide +kernel
theorem dL_law_1003 : decode cL_law 1003 = .ok (.iadd, 1) := by decide +kernel
theorem dL_law_1004 : decode cL_law 1004 = .ok (.iaload, 1) := by decide +kernel
theorem dL_law_1005 : decode cL_law 1005 = .ok (.aload_n 0, 1) := by decide +kernel
theorem dL_law_1006 : decode cL_law 1006 = .ok (.iload_n 3, 1) := by decide +kernel
theorem dL_law_1007 : decode cL_law 1007 = .ok (.iconst 2, 1) := by decide +kernel
theorem dL_law_1008 : decode cL_law 1008 = .ok (.iadd, 1) := by decide +kernel
theorem dL_law_1009 : decode cL_law 1009 = .ok (.iaload, 1) := by decide +kernel
theorem dL_law_1010 : decode cL_law 1010 = .ok (.aload_n 0, 1) := by decide +kernel
theorem dL_law_1011 : decode cL_law 1011 = .ok (.iload_n 3, 1) := by decide +kernel
theorem dL_law_1012 : decode cL_law 1012 = .ok (.iconst 3, 1) := by decide +kernel
theorem dL_law_1013 : decode cL_law 1013 = .ok (.iadd, 1) := by decide +kernel
theorem dL_law_1014 : decode cL_law 1014 = .ok (.iaload, 1) := by decide +kernel
theorem dL_law_1015 : decode cL_law 1015 = .ok (.invokevirtual 148, 3) := by decide +kernel
theorem dL_law_1018 : decode cL_law 1018 = .ok (.aload_n 2, 1) := by decide +kernel
theorem dL_law_1019 : decode cL_law 1019 = .ok (.aload_n 0, 1) := by decide +kernel
theorem dL_law_1020 : decode cL_law 1020 = .ok (.iload_n 3, 1) := by decide +kernel
theorem dL_law_1021 : decode cL_law 1021 = .ok (.iconst 1, 1) := by decide +kernel
theorem dL_law_1022 : decode cL_law 1022 = .ok (.iadd, 1) := by decide +kernel
theorem dL_law_1023 : decode cL_law 1023 = .ok (.iaload, 1) := by decide +kernel
theorem dL_law_1024 : decode cL_law 1024 = .ok (.aload_n 0, 1) := by decide +kernel
theorem dL_law_1025 : decode cL_law 1025 = .ok (.iload_n 3, 1) := by decide +kernel
theorem dL_law_1026 : decode cL_law 1026 = .ok (.iconst 2, 1) := by decide +kernel
theorem dL_law_1027 : decode cL_law 1027 = .ok (.iadd, 1) := by decide +kernel
theorem dL_law_1028 : decode cL_law 1028 = .ok (.iaload, 1) := by decide +kernel
theorem dL_law_1029 : decode cL_law 1029 = .ok (.aload_n 0, 1) := by decide +kernel
theorem dL_law_1030 : decode cL_law 1030 = .ok (.iload_n 3, 1) := by decide +kernel
theorem dL_law_1031 : decode cL_law 1031 = .ok (.iconst 3, 1) := by decide +kernel
theorem dL_law_1032 : decode cL_law 1032 = .ok (.iadd, 1) := by decide +kernel
theorem dL_law_1033 : decode cL_law 1033 = .ok (.iaload, 1) := by decide +kernel
theorem dL_law_1034 : decode cL_law 1034 = .ok (.invokevirtual 152, 3) := by decide +kernel
theorem dL_law_1037 : decode cL_law 1037 = .ok (.if_icmp .eq 111, 3) := by decide +kernel
theorem dL_law_1040 : decode cL_law 1040 = .ok (.iconst 0, 1) := by decide +kernel
theorem dL_law_1041 : decode cL_law 1041 = .ok (.ireturn, 1) := by decide +kernel
theorem dL_law_1042 : decode cL_law 1042 = .ok (.aload_n 1, 1) := by decide +kernel
theorem dL_law_1043 : decode cL_law 1043 = .ok (.aload_n 0, 1) := by decide +kernel
theorem dL_law_1044 : decode cL_law 1044 = .ok (.iload_n 3, 1) := by decide +kernel
theorem dL_law_1045 : decode cL_law 1045 = .ok (.iconst 1, 1) := by decide +kernel
theorem dL_law_1046 : decode cL_law 1046 = .ok (.iadd, 1) := by decide +kernel
theorem dL_law_1047 : decode cL_law 1047 = .ok (.iaload, 1) := by decide +kernel
theorem dL_law_1048 : decode cL_law 1048 = .ok (.aload_n 0, 1) := by decide +kernel
theorem dL_law_1049 : decode cL_law 1049 = .ok (.iload_n 3, 1) := by decide +kernel
theorem dL_law_1050 : decode cL_law 1050 = .ok (.iconst 2, 1) := by decide +kernel
theorem dL_law_1051 : decode cL_law 1051 = .ok (.iadd, 1) := by decide +kernel
theorem dL_law_1052 : decode cL_law 1052 = .ok (.iaload, 1) := by decide +kernel
theorem dL_law_1053 : decode cL_law 1053 = .ok (.invokevirtual 153, 3) := by decide +kernel
theorem dL_law_1056 : decode cL_law 1056 = .ok (.aload_n 2, 1) := by decide +kernel
theorem dL_law_1057 : decode cL_law 1057 = .ok (.aload_n 0, 1) := by decide +kernel
theorem dL_law_1058 : decode cL_law 1058 = .ok (.iload_n 3, 1) := by decide +kernel
theorem dL_law_1059 : decode cL_law 1059 = .ok (.iconst 1, 1) := by decide +kernel
theorem dL_law_1060 : decode cL_law 1060 = .ok (.iadd, 1) := by decide +kernel
theorem dL_law_1061 : decode cL_law 1061 = .ok (.iaload, 1) := by decide +kernel
theorem dL_law_1062 : decode cL_law 1062 = .ok (.aload_n 0, 1) := by decide +kernel
theorem dL_law_1063 : decode cL_law 1063 = .ok (.iload_n 3, 1) := by decide +kernel
theorem dL_law_1064 : decode cL_law 1064 = .ok (.iconst 2, 1) := by decide +kernel
theorem dL_law_1065 : decode cL_law 1065 = .ok (.iadd, 1) := by decide +kernel
theorem dL_law_1066 : decode cL_law 1066 = .ok (.iaload, 1) := by decide +kernel
theorem dL_law_1067 : decode cL_law 1067 = .ok (.invokevirtual 157, 3) := by decide +kernel
theorem dL_law_1070 : decode cL_law 1070 = .ok (.lcmp, 1) := by decide +kernel
theorem dL_law_1071 : decode cL_law 1071 = .ok (.ifCond .eq 77, 3) := by decide +kernel
theorem dL_law_1074 : decode cL_law 1074 = .ok (.iconst 0, 1) := by decide +kernel
theorem dL_law_1075 : decode cL_law 1075 = .ok (.ireturn, 1) := by decide +kernel
theorem dL_law_1076 : decode cL_law 1076 = .ok (.aload_n 1, 1) := by decide +kernel
theorem dL_law_1077 : decode cL_law 1077 = .ok (.aload_n 0, 1) := by decide +kernel
theorem dL_law_1078 : decode cL_law 1078 = .ok (.iload_n 3, 1) := by decide +kernel
theorem dL_law_1079 : decode cL_law 1079 = .ok (.iconst 1, 1) := by decide +kernel
theorem dL_law_1080 : decode cL_law 1080 = .ok (.iadd, 1) := by decide +kernel
theorem dL_law_1081 : decode cL_law 1081 = .ok (.iaload, 1) := by decide +kernel
theorem dL_law_1082 : decode cL_law 1082 = .ok (.invokevirtual 158, 3) := by decide +kernel
theorem dL_law_1085 : decode cL_law 1085 = .ok (.aload_n 2, 1) := by decide +kernel
theorem dL_law_1086 : decode cL_law 1086 = .ok (.aload_n 0, 1) := by decide +kernel
theorem dL_law_1087 : decode cL_law 1087 = .ok (.iload_n 3, 1) := by decide +kernel
theorem dL_law_1088 : decode cL_law 1088 = .ok (.iconst 1, 1) := by decide +kernel
theorem dL_law_1089 : decode cL_law 1089 = .ok (.iadd, 1) := by decide +kernel
theorem dL_law_1090 : decode cL_law 1090 = .ok (.iaload, 1) := by decide +kernel
theorem dL_law_1091 : decode cL_law 1091 = .ok (.invokevirtual 161, 3) := by decide +kernel
theorem dL_law_1094 : decode cL_law 1094 = .ok (.if_icmp .eq 54, 3) := by decide +kernel
theorem dL_law_1097 : decode cL_law 1097 = .ok (.iconst 0, 1) := by decide +kernel
theorem dL_law_1098 : decode cL_law 1098 = .ok (.ireturn, 1) := by decide +kernel
theorem dL_law_1099 : decode cL_law 1099 = .ok (.aload_n 1, 1) := by decide +kernel
theorem dL_law_1100 : decode cL_law 1100 = .ok (.invokevirtual 162, 3) := by decide +kernel
theorem dL_law_1103 : decode cL_law 1103 = .ok (.aload_n 2, 1) := by decide +kernel
theorem dL_law_1104 : decode cL_law 1104 = .ok (.invokevirtual 165, 3) := by decide +kernel
theorem dL_law_1107 : decode cL_law 1107 = .ok (.if_icmp .eq 41, 3) := by decide +kernel
theorem dL_law_1110 : decode cL_law 1110 = .ok (.iconst 0, 1) := by decide +kernel
theorem dL_law_1111 : decode cL_law 1111 = .ok (.ireturn, 1) := by decide +kernel
theorem dL_law_1112 : decode cL_law 1112 = .ok (.aload_n 1, 1) := by decide +kernel
theorem dL_law_1113 : decode cL_law 1113 = .ok (.invokevirtual 166, 3) := by decide +kernel
theorem dL_law_1116 : decode cL_law 1116 = .ok (.aload_n 2, 1) := by decide +kernel
theorem dL_law_1117 : decode cL_law 1117 = .ok (.invokevirtual 169, 3) := by decide +kernel
theorem dL_law_1120 : decode cL_law 1120 = .ok (.if_icmp .eq 28, 3) := by decide +kernel
theorem dL_law_1123 : decode cL_law 1123 = .ok (.iconst 0, 1) := by decide +kernel
theorem dL_law_1124 : decode cL_law 1124 = .ok (.ireturn, 1) := by decide +kernel
theorem dL_law_1125 : decode cL_law 1125 = .ok (.aload_n 1, 1) := by decide +kernel
theorem dL_law_1126 : decode cL_law 1126 = .ok (.aload_n 0, 1) := by decide +kernel
theorem dL_law_1127 : decode cL_law 1127 = .ok (.iload_n 3, 1) := by decide +kernel
theorem dL_law_1128 : decode cL_law 1128 = .ok (.iconst 1, 1) := by decide +kernel
theorem dL_law_1129 : decode cL_law 1129 = .ok (.iadd, 1) := by decide +kernel
theorem dL_law_1130 : decode cL_law 1130 = .ok (.iaload, 1) := by decide +kernel
theorem dL_law_1131 : decode cL_law 1131 = .ok (.invokevirtual 170, 3) := by decide +kernel
theorem dL_law_1134 : decode cL_law 1134 = .ok (.aload_n 2, 1) := by decide +kernel
theorem dL_law_1135 : decode cL_law 1135 = .ok (.aload_n 0, 1) := by decide +kernel
theorem dL_law_1136 : decode cL_law 1136 = .ok (.iload_n 3, 1) := by decide +kernel
theorem dL_law_1137 : decode cL_law 1137 = .ok (.iconst 1, 1) := by decide +kernel
theorem dL_law_1138 : decode cL_law 1138 = .ok (.iadd, 1) := by decide +kernel
theorem dL_law_1139 : decode cL_law 1139 = .ok (.iaload, 1) := by decide +kernel
theorem dL_law_1140 : decode cL_law 1140 = .ok (.invokevirtual 173, 3) := by decide +kernel
theorem dL_law_1143 : decode cL_law 1143 = .ok (.if_icmp .eq 5, 3) := by decide +kernel
theorem dL_law_1146 : decode cL_law 1146 = .ok (.iconst 0, 1) := by decide +kernel
theorem dL_law_1147 : decode cL_law 1147 = .ok (.ireturn, 1) := by decide +kernel
theorem dL_law_1148 : decode cL_law 1148 = .ok (.iinc 3 5, 3) := by decide +kernel
theorem dL_law_1151 : decode cL_law 1151 = .ok (.goto (-1133), 3) := by decide +kernel
theorem dL_law_1154 : decode cL_law 1154 = .ok (.iconst 1, 1) := by decide +kernel
theorem dL_law_1155 : decode cL_law 1155 = .ok (.ireturn, 1) := by decide +kernel
abbrev vwCl : List vw_C := [(RX0, TX0, 3), (RX1, TX1, 5), (RX2, TX2, 6), (RX3, TX3, 7), (RX4, TX4, 6), (RX5, TX5, 2), (RX7, TX7, 2), (RX8, TX8, 9), (RX9, TX9, 42)]
