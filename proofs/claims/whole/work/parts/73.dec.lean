def dchk (c : ByteArray) (L : List (Nat × Instr × Nat)) : Bool := L.all (fun q => decide (decode c q.1 = .ok q.2))
theorem dq {c : ByteArray} {L : List (Nat × Instr × Nat)} (h : dchk c L = true) {i pc n : Nat} {x : Instr} (hi : L[i]? = some (pc, x, n)) : decode c pc = .ok (x, n) := by
  have h1 := List.all_eq_true.mp h _ (List.mem_of_getElem? hi)
  exact of_decide_eq_true h1

theorem daX0_init_0 : dchk cX0_init [(0, .aload_n 0, 1), (1, .invokespecial 1, 3), (4, .aload_n 0, 1), (5, .bipush 9, 2), (7, .anewarray 9, 3), (10, .putfield 11, 3), (13, .iconst 0, 1), (14, .istore_n 1, 1), (15, .iload_n 1, 1), (16, .bipush 8, 2), (18, .if_icmp .gt 22, 3), (21, .aload_n 0, 1), (22, .getfield 11, 3), (25, .iload_n 1, 1), (26, .new 9, 3), (29, .dup, 1), (30, .invokespecial 15, 3), (33, .aastore, 1), (34, .iinc 1 1, 3), (37, .goto (-22), 3), (40, .return_, 1)] = true := by decide +kernel
theorem dX0_init_0 : decode cX0_init 0 = .ok (.aload_n 0, 1) := dq daX0_init_0 (i := 0) rfl
theorem dX0_init_1 : decode cX0_init 1 = .ok (.invokespecial 1, 3) := dq daX0_init_0 (i := 1) rfl
theorem dX0_init_4 : decode cX0_init 4 = .ok (.aload_n 0, 1) := dq daX0_init_0 (i := 2) rfl
theorem dX0_init_5 : decode cX0_init 5 = .ok (.bipush 9, 2) := dq daX0_init_0 (i := 3) rfl
theorem dX0_init_7 : decode cX0_init 7 = .ok (.anewarray 9, 3) := dq daX0_init_0 (i := 4) rfl
theorem dX0_init_10 : decode cX0_init 10 = .ok (.putfield 11, 3) := dq daX0_init_0 (i := 5) rfl
theorem dX0_init_13 : decode cX0_init 13 = .ok (.iconst 0, 1) := dq daX0_init_0 (i := 6) rfl
theorem dX0_init_14 : decode cX0_init 14 = .ok (.istore_n 1, 1) := dq daX0_init_0 (i := 7) rfl
theorem dX0_init_15 : decode cX0_init 15 = .ok (.iload_n 1, 1) := dq daX0_init_0 (i := 8) rfl
theorem dX0_init_16 : decode cX0_init 16 = .ok (.bipush 8, 2) := dq daX0_init_0 (i := 9) rfl
theorem dX0_init_18 : decode cX0_init 18 = .ok (.if_icmp .gt 22, 3) := dq daX0_init_0 (i := 10) rfl
theorem dX0_init_21 : decode cX0_init 21 = .ok (.aload_n 0, 1) := dq daX0_init_0 (i := 11) rfl
theorem dX0_init_22 : decode cX0_init 22 = .ok (.getfield 11, 3) := dq daX0_init_0 (i := 12) rfl
theorem dX0_init_25 : decode cX0_init 25 = .ok (.iload_n 1, 1) := dq daX0_init_0 (i := 13) rfl
theorem dX0_init_26 : decode cX0_init 26 = .ok (.new 9, 3) := dq daX0_init_0 (i := 14) rfl
theorem dX0_init_29 : decode cX0_init 29 = .ok (.dup, 1) := dq daX0_init_0 (i := 15) rfl
theorem dX0_init_30 : decode cX0_init 30 = .ok (.invokespecial 15, 3) := dq daX0_init_0 (i := 16) rfl
theorem dX0_init_33 : decode cX0_init 33 = .ok (.aastore, 1) := dq daX0_init_0 (i := 17) rfl
theorem dX0_init_34 : decode cX0_init 34 = .ok (.iinc 1 1, 3) := dq daX0_init_0 (i := 18) rfl
theorem dX0_init_37 : decode cX0_init 37 = .ok (.goto (-22), 3) := dq daX0_init_0 (i := 19) rfl
theorem dX0_init_40 : decode cX0_init 40 = .ok (.return_, 1) := dq daX0_init_0 (i := 20) rfl
theorem daX0_undoable_0 : dchk cX0_undoable [(0, .aload_n 0, 1), (1, .getfield 16, 3), (4, .ireturn, 1)] = true := by decide +kernel
theorem dX0_undoable_0 : decode cX0_undoable 0 = .ok (.aload_n 0, 1) := dq daX0_undoable_0 (i := 0) rfl
theorem dX0_undoable_1 : decode cX0_undoable 1 = .ok (.getfield 16, 3) := dq daX0_undoable_0 (i := 1) rfl
theorem dX0_undoable_4 : decode cX0_undoable 4 = .ok (.ireturn, 1) := dq daX0_undoable_0 (i := 2) rfl
theorem daX0_repeatable_0 : dchk cX0_repeatable [(0, .aload_n 0, 1), (1, .getfield 20, 3), (4, .aload_n 0, 1), (5, .getfield 16, 3), (8, .isub, 1), (9, .ireturn, 1)] = true := by decide +kernel
theorem dX0_repeatable_0 : decode cX0_repeatable 0 = .ok (.aload_n 0, 1) := dq daX0_repeatable_0 (i := 0) rfl
theorem dX0_repeatable_1 : decode cX0_repeatable 1 = .ok (.getfield 20, 3) := dq daX0_repeatable_0 (i := 1) rfl
theorem dX0_repeatable_4 : decode cX0_repeatable 4 = .ok (.aload_n 0, 1) := dq daX0_repeatable_0 (i := 2) rfl
theorem dX0_repeatable_5 : decode cX0_repeatable 5 = .ok (.getfield 16, 3) := dq daX0_repeatable_0 (i := 3) rfl
theorem dX0_repeatable_8 : decode cX0_repeatable 8 = .ok (.isub, 1) := dq daX0_repeatable_0 (i := 4) rfl
theorem dX0_repeatable_9 : decode cX0_repeatable 9 = .ok (.ireturn, 1) := dq daX0_repeatable_0 (i := 5) rfl
theorem daX0_present_0 : dchk cX0_present [(0, .aload_n 0, 1), (1, .getfield 16, 3), (4, .ifCond .lt 24, 3), (7, .aload_n 0, 1), (8, .getfield 16, 3), (11, .bipush 8, 2), (13, .if_icmp .gt 15, 3), (16, .aload_n 0, 1), (17, .getfield 11, 3), (20, .aload_n 0, 1), (21, .getfield 16, 3), (24, .aaload, 1), (25, .goto 9, 3), (28, .aload_n 0, 1), (29, .getfield 11, 3), (32, .iconst 0, 1), (33, .aaload, 1), (34, .areturn, 1)] = true := by decide +kernel
theorem dX0_present_0 : decode cX0_present 0 = .ok (.aload_n 0, 1) := dq daX0_present_0 (i := 0) rfl
theorem dX0_present_1 : decode cX0_present 1 = .ok (.getfield 16, 3) := dq daX0_present_0 (i := 1) rfl
theorem dX0_present_4 : decode cX0_present 4 = .ok (.ifCond .lt 24, 3) := dq daX0_present_0 (i := 2) rfl
theorem dX0_present_7 : decode cX0_present 7 = .ok (.aload_n 0, 1) := dq daX0_present_0 (i := 3) rfl
theorem dX0_present_8 : decode cX0_present 8 = .ok (.getfield 16, 3) := dq daX0_present_0 (i := 4) rfl
theorem dX0_present_11 : decode cX0_present 11 = .ok (.bipush 8, 2) := dq daX0_present_0 (i := 5) rfl
theorem dX0_present_13 : decode cX0_present 13 = .ok (.if_icmp .gt 15, 3) := dq daX0_present_0 (i := 6) rfl
theorem dX0_present_16 : decode cX0_present 16 = .ok (.aload_n 0, 1) := dq daX0_present_0 (i := 7) rfl
theorem dX0_present_17 : decode cX0_present 17 = .ok (.getfield 11, 3) := dq daX0_present_0 (i := 8) rfl
theorem dX0_present_20 : decode cX0_present 20 = .ok (.aload_n 0, 1) := dq daX0_present_0 (i := 9) rfl
theorem dX0_present_21 : decode cX0_present 21 = .ok (.getfield 16, 3) := dq daX0_present_0 (i := 10) rfl
theorem dX0_present_24 : decode cX0_present 24 = .ok (.aaload, 1) := dq daX0_present_0 (i := 11) rfl
theorem dX0_present_25 : decode cX0_present 25 = .ok (.goto 9, 3) := dq daX0_present_0 (i := 12) rfl
theorem dX0_present_28 : decode cX0_present 28 = .ok (.aload_n 0, 1) := dq daX0_present_0 (i := 13) rfl
theorem dX0_present_29 : decode cX0_present 29 = .ok (.getfield 11, 3) := dq daX0_present_0 (i := 14) rfl
theorem dX0_present_32 : decode cX0_present 32 = .ok (.iconst 0, 1) := dq daX0_present_0 (i := 15) rfl
theorem dX0_present_33 : decode cX0_present 33 = .ok (.aaload, 1) := dq daX0_present_0 (i := 16) rfl
theorem dX0_present_34 : decode cX0_present 34 = .ok (.areturn, 1) := dq daX0_present_0 (i := 17) rfl
theorem daX0_settle_0 : dchk cX0_settle [(0, .aload_n 1, 1), (1, .aload_n 0, 1), (2, .invokevirtual 23, 3), (5, .invokevirtual 27, 3), (8, .ifCond .eq 4, 3), (11, .return_, 1), (12, .aload_n 0, 1), (13, .getfield 16, 3), (16, .bipush 8, 2), (18, .if_icmp .lt 7, 3), (21, .aload_n 0, 1), (22, .invokevirtual 31, 3), (25, .aload_n 0, 1), (26, .dup, 1), (27, .getfield 16, 3), (30, .iconst 1, 1), (31, .iadd, 1), (32, .putfield 16, 3), (35, .aload_n 0, 1), (36, .aload_n 0, 1), (37, .getfield 16, 3), (40, .putfield 20, 3), (43, .aload_n 0, 1), (44, .invokevirtual 23, 3), (47, .aload_n 1, 1), (48, .invokevirtual 34, 3), (51, .return_, 1)] = true := by decide +kernel
theorem dX0_settle_0 : decode cX0_settle 0 = .ok (.aload_n 1, 1) := dq daX0_settle_0 (i := 0) rfl
theorem dX0_settle_1 : decode cX0_settle 1 = .ok (.aload_n 0, 1) := dq daX0_settle_0 (i := 1) rfl
theorem dX0_settle_2 : decode cX0_settle 2 = .ok (.invokevirtual 23, 3) := dq daX0_settle_0 (i := 2) rfl
theorem dX0_settle_5 : decode cX0_settle 5 = .ok (.invokevirtual 27, 3) := dq daX0_settle_0 (i := 3) rfl
theorem dX0_settle_8 : decode cX0_settle 8 = .ok (.ifCond .eq 4, 3) := dq daX0_settle_0 (i := 4) rfl
theorem dX0_settle_11 : decode cX0_settle 11 = .ok (.return_, 1) := dq daX0_settle_0 (i := 5) rfl
theorem dX0_settle_12 : decode cX0_settle 12 = .ok (.aload_n 0, 1) := dq daX0_settle_0 (i := 6) rfl
theorem dX0_settle_13 : decode cX0_settle 13 = .ok (.getfield 16, 3) := dq daX0_settle_0 (i := 7) rfl
theorem dX0_settle_16 : decode cX0_settle 16 = .ok (.bipush 8, 2) := dq daX0_settle_0 (i := 8) rfl
theorem dX0_settle_18 : decode cX0_settle 18 = .ok (.if_icmp .lt 7, 3) := dq daX0_settle_0 (i := 9) rfl
theorem dX0_settle_21 : decode cX0_settle 21 = .ok (.aload_n 0, 1) := dq daX0_settle_0 (i := 10) rfl
theorem dX0_settle_22 : decode cX0_settle 22 = .ok (.invokevirtual 31, 3) := dq daX0_settle_0 (i := 11) rfl
theorem dX0_settle_25 : decode cX0_settle 25 = .ok (.aload_n 0, 1) := dq daX0_settle_0 (i := 12) rfl
theorem dX0_settle_26 : decode cX0_settle 26 = .ok (.dup, 1) := dq daX0_settle_0 (i := 13) rfl
theorem dX0_settle_27 : decode cX0_settle 27 = .ok (.getfield 16, 3) := dq daX0_settle_0 (i := 14) rfl
theorem dX0_settle_30 : decode cX0_settle 30 = .ok (.iconst 1, 1) := dq daX0_settle_0 (i := 15) rfl
theorem dX0_settle_31 : decode cX0_settle 31 = .ok (.iadd, 1) := dq daX0_settle_0 (i := 16) rfl
theorem dX0_settle_32 : decode cX0_settle 32 = .ok (.putfield 16, 3) := dq daX0_settle_0 (i := 17) rfl
theorem dX0_settle_35 : decode cX0_settle 35 = .ok (.aload_n 0, 1) := dq daX0_settle_0 (i := 18) rfl
theorem dX0_settle_36 : decode cX0_settle 36 = .ok (.aload_n 0, 1) := dq daX0_settle_0 (i := 19) rfl
theorem dX0_settle_37 : decode cX0_settle 37 = .ok (.getfield 16, 3) := dq daX0_settle_0 (i := 20) rfl
theorem dX0_settle_40 : decode cX0_settle 40 = .ok (.putfield 20, 3) := dq daX0_settle_0 (i := 21) rfl
theorem dX0_settle_43 : decode cX0_settle 43 = .ok (.aload_n 0, 1) := dq daX0_settle_0 (i := 22) rfl
theorem dX0_settle_44 : decode cX0_settle 44 = .ok (.invokevirtual 23, 3) := dq daX0_settle_0 (i := 23) rfl
theorem dX0_settle_47 : decode cX0_settle 47 = .ok (.aload_n 1, 1) := dq daX0_settle_0 (i := 24) rfl
theorem dX0_settle_48 : decode cX0_settle 48 = .ok (.invokevirtual 34, 3) := dq daX0_settle_0 (i := 25) rfl
theorem dX0_settle_51 : decode cX0_settle 51 = .ok (.return_, 1) := dq daX0_settle_0 (i := 26) rfl
theorem daX0_stepBack_0 : dchk cX0_stepBack [(0, .aload_n 0, 1), (1, .getfield 16, 3), (4, .ifCond .le 13, 3), (7, .aload_n 0, 1), (8, .dup, 1), (9, .getfield 16, 3), (12, .iconst 1, 1), (13, .isub, 1), (14, .putfield 16, 3), (17, .aload_n 1, 1), (18, .aload_n 0, 1), (19, .invokevirtual 23, 3), (22, .invokevirtual 34, 3), (25, .return_, 1)] = true := by decide +kernel
theorem dX0_stepBack_0 : decode cX0_stepBack 0 = .ok (.aload_n 0, 1) := dq daX0_stepBack_0 (i := 0) rfl
theorem dX0_stepBack_1 : decode cX0_stepBack 1 = .ok (.getfield 16, 3) := dq daX0_stepBack_0 (i := 1) rfl
theorem dX0_stepBack_4 : decode cX0_stepBack 4 = .ok (.ifCond .le 13, 3) := dq daX0_stepBack_0 (i := 2) rfl
theorem dX0_stepBack_7 : decode cX0_stepBack 7 = .ok (.aload_n 0, 1) := dq daX0_stepBack_0 (i := 3) rfl
theorem dX0_stepBack_8 : decode cX0_stepBack 8 = .ok (.dup, 1) := dq daX0_stepBack_0 (i := 4) rfl
theorem dX0_stepBack_9 : decode cX0_stepBack 9 = .ok (.getfield 16, 3) := dq daX0_stepBack_0 (i := 5) rfl
theorem dX0_stepBack_12 : decode cX0_stepBack 12 = .ok (.iconst 1, 1) := dq daX0_stepBack_0 (i := 6) rfl
theorem dX0_stepBack_13 : decode cX0_stepBack 13 = .ok (.isub, 1) := dq daX0_stepBack_0 (i := 7) rfl
theorem dX0_stepBack_14 : decode cX0_stepBack 14 = .ok (.putfield 16, 3) := dq daX0_stepBack_0 (i := 8) rfl
theorem dX0_stepBack_17 : decode cX0_stepBack 17 = .ok (.aload_n 1, 1) := dq daX0_stepBack_0 (i := 9) rfl
theorem dX0_stepBack_18 : decode cX0_stepBack 18 = .ok (.aload_n 0, 1) := dq daX0_stepBack_0 (i := 10) rfl
theorem dX0_stepBack_19 : decode cX0_stepBack 19 = .ok (.invokevirtual 23, 3) := dq daX0_stepBack_0 (i := 11) rfl
theorem dX0_stepBack_22 : decode cX0_stepBack 22 = .ok (.invokevirtual 34, 3) := dq daX0_stepBack_0 (i := 12) rfl
theorem dX0_stepBack_25 : decode cX0_stepBack 25 = .ok (.return_, 1) := dq daX0_stepBack_0 (i := 13) rfl
theorem daX0_stepOn_0 : dchk cX0_stepOn [(0, .aload_n 0, 1), (1, .getfield 16, 3), (4, .aload_n 0, 1), (5, .getfield 20, 3), (8, .if_icmp .ge 13, 3), (11, .aload_n 0, 1), (12, .dup, 1), (13, .getfield 16, 3), (16, .iconst 1, 1), (17, .iadd, 1), (18, .putfield 16, 3), (21, .aload_n 1, 1), (22, .aload_n 0, 1), (23, .invokevirtual 23, 3), (26, .invokevirtual 34, 3), (29, .return_, 1)] = true := by decide +kernel
theorem dX0_stepOn_0 : decode cX0_stepOn 0 = .ok (.aload_n 0, 1) := dq daX0_stepOn_0 (i := 0) rfl
theorem dX0_stepOn_1 : decode cX0_stepOn 1 = .ok (.getfield 16, 3) := dq daX0_stepOn_0 (i := 1) rfl
theorem dX0_stepOn_4 : decode cX0_stepOn 4 = .ok (.aload_n 0, 1) := dq daX0_stepOn_0 (i := 2) rfl
theorem dX0_stepOn_5 : decode cX0_stepOn 5 = .ok (.getfield 20, 3) := dq daX0_stepOn_0 (i := 3) rfl
theorem dX0_stepOn_8 : decode cX0_stepOn 8 = .ok (.if_icmp .ge 13, 3) := dq daX0_stepOn_0 (i := 4) rfl
theorem dX0_stepOn_11 : decode cX0_stepOn 11 = .ok (.aload_n 0, 1) := dq daX0_stepOn_0 (i := 5) rfl
theorem dX0_stepOn_12 : decode cX0_stepOn 12 = .ok (.dup, 1) := dq daX0_stepOn_0 (i := 6) rfl
theorem dX0_stepOn_13 : decode cX0_stepOn 13 = .ok (.getfield 16, 3) := dq daX0_stepOn_0 (i := 7) rfl
theorem dX0_stepOn_16 : decode cX0_stepOn 16 = .ok (.iconst 1, 1) := dq daX0_stepOn_0 (i := 8) rfl
theorem dX0_stepOn_17 : decode cX0_stepOn 17 = .ok (.iadd, 1) := dq daX0_stepOn_0 (i := 9) rfl
theorem dX0_stepOn_18 : decode cX0_stepOn 18 = .ok (.putfield 16, 3) := dq daX0_stepOn_0 (i := 10) rfl
theorem dX0_stepOn_21 : decode cX0_stepOn 21 = .ok (.aload_n 1, 1) := dq daX0_stepOn_0 (i := 11) rfl
theorem dX0_stepOn_22 : decode cX0_stepOn 22 = .ok (.aload_n 0, 1) := dq daX0_stepOn_0 (i := 12) rfl
theorem dX0_stepOn_23 : decode cX0_stepOn 23 = .ok (.invokevirtual 23, 3) := dq daX0_stepOn_0 (i := 13) rfl
theorem dX0_stepOn_26 : decode cX0_stepOn 26 = .ok (.invokevirtual 34, 3) := dq daX0_stepOn_0 (i := 14) rfl
theorem dX0_stepOn_29 : decode cX0_stepOn 29 = .ok (.return_, 1) := dq daX0_stepOn_0 (i := 15) rfl
theorem daX0_startAnew_0 : dchk cX0_startAnew [(0, .aload_n 0, 1), (1, .iconst 0, 1), (2, .putfield 16, 3), (5, .aload_n 0, 1), (6, .iconst 0, 1), (7, .putfield 20, 3), (10, .aload_n 0, 1), (11, .getfield 11, 3), (14, .iconst 0, 1), (15, .aaload, 1), (16, .aload_n 1, 1), (17, .invokevirtual 34, 3), (20, .return_, 1)] = true := by decide +kernel
theorem dX0_startAnew_0 : decode cX0_startAnew 0 = .ok (.aload_n 0, 1) := dq daX0_startAnew_0 (i := 0) rfl
theorem dX0_startAnew_1 : decode cX0_startAnew 1 = .ok (.iconst 0, 1) := dq daX0_startAnew_0 (i := 1) rfl
theorem dX0_startAnew_2 : decode cX0_startAnew 2 = .ok (.putfield 16, 3) := dq daX0_startAnew_0 (i := 2) rfl
theorem dX0_startAnew_5 : decode cX0_startAnew 5 = .ok (.aload_n 0, 1) := dq daX0_startAnew_0 (i := 3) rfl
theorem dX0_startAnew_6 : decode cX0_startAnew 6 = .ok (.iconst 0, 1) := dq daX0_startAnew_0 (i := 4) rfl
theorem dX0_startAnew_7 : decode cX0_startAnew 7 = .ok (.putfield 20, 3) := dq daX0_startAnew_0 (i := 5) rfl
theorem dX0_startAnew_10 : decode cX0_startAnew 10 = .ok (.aload_n 0, 1) := dq daX0_startAnew_0 (i := 6) rfl
theorem dX0_startAnew_11 : decode cX0_startAnew 11 = .ok (.getfield 11, 3) := dq daX0_startAnew_0 (i := 7) rfl
theorem dX0_startAnew_14 : decode cX0_startAnew 14 = .ok (.iconst 0, 1) := dq daX0_startAnew_0 (i := 8) rfl
theorem dX0_startAnew_15 : decode cX0_startAnew 15 = .ok (.aaload, 1) := dq daX0_startAnew_0 (i := 9) rfl
theorem dX0_startAnew_16 : decode cX0_startAnew 16 = .ok (.aload_n 1, 1) := dq daX0_startAnew_0 (i := 10) rfl
theorem dX0_startAnew_17 : decode cX0_startAnew 17 = .ok (.invokevirtual 34, 3) := dq daX0_startAnew_0 (i := 11) rfl
theorem dX0_startAnew_20 : decode cX0_startAnew 20 = .ok (.return_, 1) := dq daX0_startAnew_0 (i := 12) rfl
theorem daX0_dropOldest_0 : dchk cX0_dropOldest [(0, .aload_n 0, 1), (1, .getfield 11, 3), (4, .iconst 0, 1), (5, .aaload, 1), (6, .astore_n 1, 1), (7, .iconst 0, 1), (8, .istore_n 2, 1), (9, .iload_n 2, 1), (10, .bipush 8, 2), (12, .if_icmp .ge 23, 3), (15, .aload_n 0, 1), (16, .getfield 11, 3), (19, .iload_n 2, 1), (20, .aload_n 0, 1), (21, .getfield 11, 3), (24, .iload_n 2, 1), (25, .iconst 1, 1), (26, .iadd, 1), (27, .aaload, 1), (28, .aastore, 1), (29, .iinc 2 1, 3), (32, .goto (-23), 3), (35, .aload_n 0, 1), (36, .getfield 11, 3), (39, .bipush 8, 2), (41, .aload_n 1, 1), (42, .aastore, 1), (43, .aload_n 0, 1), (44, .dup, 1), (45, .getfield 16, 3), (48, .iconst 1, 1), (49, .isub, 1), (50, .putfield 16, 3), (53, .return_, 1)] = true := by decide +kernel
theorem dX0_dropOldest_0 : decode cX0_dropOldest 0 = .ok (.aload_n 0, 1) := dq daX0_dropOldest_0 (i := 0) rfl
theorem dX0_dropOldest_1 : decode cX0_dropOldest 1 = .ok (.getfield 11, 3) := dq daX0_dropOldest_0 (i := 1) rfl
theorem dX0_dropOldest_4 : decode cX0_dropOldest 4 = .ok (.iconst 0, 1) := dq daX0_dropOldest_0 (i := 2) rfl
theorem dX0_dropOldest_5 : decode cX0_dropOldest 5 = .ok (.aaload, 1) := dq daX0_dropOldest_0 (i := 3) rfl
theorem dX0_dropOldest_6 : decode cX0_dropOldest 6 = .ok (.astore_n 1, 1) := dq daX0_dropOldest_0 (i := 4) rfl
theorem dX0_dropOldest_7 : decode cX0_dropOldest 7 = .ok (.iconst 0, 1) := dq daX0_dropOldest_0 (i := 5) rfl
theorem dX0_dropOldest_8 : decode cX0_dropOldest 8 = .ok (.istore_n 2, 1) := dq daX0_dropOldest_0 (i := 6) rfl
theorem dX0_dropOldest_9 : decode cX0_dropOldest 9 = .ok (.iload_n 2, 1) := dq daX0_dropOldest_0 (i := 7) rfl
theorem dX0_dropOldest_10 : decode cX0_dropOldest 10 = .ok (.bipush 8, 2) := dq daX0_dropOldest_0 (i := 8) rfl
theorem dX0_dropOldest_12 : decode cX0_dropOldest 12 = .ok (.if_icmp .ge 23, 3) := dq daX0_dropOldest_0 (i := 9) rfl
theorem dX0_dropOldest_15 : decode cX0_dropOldest 15 = .ok (.aload_n 0, 1) := dq daX0_dropOldest_0 (i := 10) rfl
theorem dX0_dropOldest_16 : decode cX0_dropOldest 16 = .ok (.getfield 11, 3) := dq daX0_dropOldest_0 (i := 11) rfl
theorem dX0_dropOldest_19 : decode cX0_dropOldest 19 = .ok (.iload_n 2, 1) := dq daX0_dropOldest_0 (i := 12) rfl
theorem dX0_dropOldest_20 : decode cX0_dropOldest 20 = .ok (.aload_n 0, 1) := dq daX0_dropOldest_0 (i := 13) rfl
theorem dX0_dropOldest_21 : decode cX0_dropOldest 21 = .ok (.getfield 11, 3) := dq daX0_dropOldest_0 (i := 14) rfl
theorem dX0_dropOldest_24 : decode cX0_dropOldest 24 = .ok (.iload_n 2, 1) := dq daX0_dropOldest_0 (i := 15) rfl
theorem dX0_dropOldest_25 : decode cX0_dropOldest 25 = .ok (.iconst 1, 1) := dq daX0_dropOldest_0 (i := 16) rfl
theorem dX0_dropOldest_26 : decode cX0_dropOldest 26 = .ok (.iadd, 1) := dq daX0_dropOldest_0 (i := 17) rfl
theorem dX0_dropOldest_27 : decode cX0_dropOldest 27 = .ok (.aaload, 1) := dq daX0_dropOldest_0 (i := 18) rfl
theorem dX0_dropOldest_28 : decode cX0_dropOldest 28 = .ok (.aastore, 1) := dq daX0_dropOldest_0 (i := 19) rfl
theorem dX0_dropOldest_29 : decode cX0_dropOldest 29 = .ok (.iinc 2 1, 3) := dq daX0_dropOldest_0 (i := 20) rfl
theorem dX0_dropOldest_32 : decode cX0_dropOldest 32 = .ok (.goto (-23), 3) := dq daX0_dropOldest_0 (i := 21) rfl
theorem dX0_dropOldest_35 : decode cX0_dropOldest 35 = .ok (.aload_n 0, 1) := dq daX0_dropOldest_0 (i := 22) rfl
theorem dX0_dropOldest_36 : decode cX0_dropOldest 36 = .ok (.getfield 11, 3) := dq daX0_dropOldest_0 (i := 23) rfl
theorem dX0_dropOldest_39 : decode cX0_dropOldest 39 = .ok (.bipush 8, 2) := dq daX0_dropOldest_0 (i := 24) rfl
theorem dX0_dropOldest_41 : decode cX0_dropOldest 41 = .ok (.aload_n 1, 1) := dq daX0_dropOldest_0 (i := 25) rfl
theorem dX0_dropOldest_42 : decode cX0_dropOldest 42 = .ok (.aastore, 1) := dq daX0_dropOldest_0 (i := 26) rfl
theorem dX0_dropOldest_43 : decode cX0_dropOldest 43 = .ok (.aload_n 0, 1) := dq daX0_dropOldest_0 (i := 27) rfl
theorem dX0_dropOldest_44 : decode cX0_dropOldest 44 = .ok (.dup, 1) := dq daX0_dropOldest_0 (i := 28) rfl
theorem dX0_dropOldest_45 : decode cX0_dropOldest 45 = .ok (.getfield 16, 3) := dq daX0_dropOldest_0 (i := 29) rfl
theorem dX0_dropOldest_48 : decode cX0_dropOldest 48 = .ok (.iconst 1, 1) := dq daX0_dropOldest_0 (i := 30) rfl
theorem dX0_dropOldest_49 : decode cX0_dropOldest 49 = .ok (.isub, 1) := dq daX0_dropOldest_0 (i := 31) rfl
theorem dX0_dropOldest_50 : decode cX0_dropOldest 50 = .ok (.putfield 16, 3) := dq daX0_dropOldest_0 (i := 32) rfl
theorem dX0_dropOldest_53 : decode cX0_dropOldest 53 = .ok (.return_, 1) := dq daX0_dropOldest_0 (i := 33) rfl
theorem daX1_init_0 : dchk cX1_init [(0, .aload_n 0, 1), (1, .invokespecial 3, 3), (4, .aload_n 0, 1), (5, .bipush 8, 2), (7, .newarray .int, 2), (9, .putfield 9, 3), (12, .aload_n 0, 1), (13, .iconst 4, 1), (14, .putfield 15, 3), (17, .return_, 1)] = true := by decide +kernel
theorem dX1_init_0 : decode cX1_init 0 = .ok (.aload_n 0, 1) := dq daX1_init_0 (i := 0) rfl
theorem dX1_init_1 : decode cX1_init 1 = .ok (.invokespecial 3, 3) := dq daX1_init_0 (i := 1) rfl
theorem dX1_init_4 : decode cX1_init 4 = .ok (.aload_n 0, 1) := dq daX1_init_0 (i := 2) rfl
theorem dX1_init_5 : decode cX1_init 5 = .ok (.bipush 8, 2) := dq daX1_init_0 (i := 3) rfl
theorem dX1_init_7 : decode cX1_init 7 = .ok (.newarray .int, 2) := dq daX1_init_0 (i := 4) rfl
theorem dX1_init_9 : decode cX1_init 9 = .ok (.putfield 9, 3) := dq daX1_init_0 (i := 5) rfl
theorem dX1_init_12 : decode cX1_init 12 = .ok (.aload_n 0, 1) := dq daX1_init_0 (i := 6) rfl
theorem dX1_init_13 : decode cX1_init 13 = .ok (.iconst 4, 1) := dq daX1_init_0 (i := 7) rfl
theorem dX1_init_14 : decode cX1_init 14 = .ok (.putfield 15, 3) := dq daX1_init_0 (i := 8) rfl
theorem dX1_init_17 : decode cX1_init 17 = .ok (.return_, 1) := dq daX1_init_0 (i := 9) rfl
theorem daX1_copyFrom_0 : dchk cX1_copyFrom [(0, .aload_n 0, 1), (1, .aload_n 1, 1), (2, .getfield 19, 3), (5, .putfield 19, 3), (8, .aload_n 0, 1), (9, .aload_n 1, 1), (10, .getfield 22, 3), (13, .putfield 22, 3), (16, .iconst 0, 1), (17, .istore_n 2, 1), (18, .iload_n 2, 1), (19, .bipush 8, 2), (21, .if_icmp .ge 21, 3), (24, .aload_n 0, 1), (25, .getfield 9, 3), (28, .iload_n 2, 1), (29, .aload_n 1, 1), (30, .getfield 9, 3), (33, .iload_n 2, 1), (34, .iaload, 1), (35, .iastore, 1), (36, .iinc 2 1, 3), (39, .goto (-21), 3), (42, .aload_n 0, 1), (43, .aload_n 1, 1), (44, .getfield 15, 3), (47, .putfield 15, 3), (50, .aload_n 0, 1), (51, .aload_n 1, 1), (52, .getfield 25, 3), (55, .putfield 25, 3), (58, .return_, 1)] = true := by decide +kernel
theorem dX1_copyFrom_0 : decode cX1_copyFrom 0 = .ok (.aload_n 0, 1) := dq daX1_copyFrom_0 (i := 0) rfl
theorem dX1_copyFrom_1 : decode cX1_copyFrom 1 = .ok (.aload_n 1, 1) := dq daX1_copyFrom_0 (i := 1) rfl
theorem dX1_copyFrom_2 : decode cX1_copyFrom 2 = .ok (.getfield 19, 3) := dq daX1_copyFrom_0 (i := 2) rfl
theorem dX1_copyFrom_5 : decode cX1_copyFrom 5 = .ok (.putfield 19, 3) := dq daX1_copyFrom_0 (i := 3) rfl
theorem dX1_copyFrom_8 : decode cX1_copyFrom 8 = .ok (.aload_n 0, 1) := dq daX1_copyFrom_0 (i := 4) rfl
theorem dX1_copyFrom_9 : decode cX1_copyFrom 9 = .ok (.aload_n 1, 1) := dq daX1_copyFrom_0 (i := 5) rfl
theorem dX1_copyFrom_10 : decode cX1_copyFrom 10 = .ok (.getfield 22, 3) := dq daX1_copyFrom_0 (i := 6) rfl
theorem dX1_copyFrom_13 : decode cX1_copyFrom 13 = .ok (.putfield 22, 3) := dq daX1_copyFrom_0 (i := 7) rfl
theorem dX1_copyFrom_16 : decode cX1_copyFrom 16 = .ok (.iconst 0, 1) := dq daX1_copyFrom_0 (i := 8) rfl
theorem dX1_copyFrom_17 : decode cX1_copyFrom 17 = .ok (.istore_n 2, 1) := dq daX1_copyFrom_0 (i := 9) rfl
theorem dX1_copyFrom_18 : decode cX1_copyFrom 18 = .ok (.iload_n 2, 1) := dq daX1_copyFrom_0 (i := 10) rfl
theorem dX1_copyFrom_19 : decode cX1_copyFrom 19 = .ok (.bipush 8, 2) := dq daX1_copyFrom_0 (i := 11) rfl
theorem dX1_copyFrom_21 : decode cX1_copyFrom 21 = .ok (.if_icmp .ge 21, 3) := dq daX1_copyFrom_0 (i := 12) rfl
theorem dX1_copyFrom_24 : decode cX1_copyFrom 24 = .ok (.aload_n 0, 1) := dq daX1_copyFrom_0 (i := 13) rfl
theorem dX1_copyFrom_25 : decode cX1_copyFrom 25 = .ok (.getfield 9, 3) := dq daX1_copyFrom_0 (i := 14) rfl
theorem dX1_copyFrom_28 : decode cX1_copyFrom 28 = .ok (.iload_n 2, 1) := dq daX1_copyFrom_0 (i := 15) rfl
theorem dX1_copyFrom_29 : decode cX1_copyFrom 29 = .ok (.aload_n 1, 1) := dq daX1_copyFrom_0 (i := 16) rfl
theorem dX1_copyFrom_30 : decode cX1_copyFrom 30 = .ok (.getfield 9, 3) := dq daX1_copyFrom_0 (i := 17) rfl
theorem dX1_copyFrom_33 : decode cX1_copyFrom 33 = .ok (.iload_n 2, 1) := dq daX1_copyFrom_0 (i := 18) rfl
theorem dX1_copyFrom_34 : decode cX1_copyFrom 34 = .ok (.iaload, 1) := dq daX1_copyFrom_0 (i := 19) rfl
theorem dX1_copyFrom_35 : decode cX1_copyFrom 35 = .ok (.iastore, 1) := dq daX1_copyFrom_0 (i := 20) rfl
theorem dX1_copyFrom_36 : decode cX1_copyFrom 36 = .ok (.iinc 2 1, 3) := dq daX1_copyFrom_0 (i := 21) rfl
theorem dX1_copyFrom_39 : decode cX1_copyFrom 39 = .ok (.goto (-21), 3) := dq daX1_copyFrom_0 (i := 22) rfl
theorem dX1_copyFrom_42 : decode cX1_copyFrom 42 = .ok (.aload_n 0, 1) := dq daX1_copyFrom_0 (i := 23) rfl
theorem dX1_copyFrom_43 : decode cX1_copyFrom 43 = .ok (.aload_n 1, 1) := dq daX1_copyFrom_0 (i := 24) rfl
theorem dX1_copyFrom_44 : decode cX1_copyFrom 44 = .ok (.getfield 15, 3) := dq daX1_copyFrom_0 (i := 25) rfl
theorem dX1_copyFrom_47 : decode cX1_copyFrom 47 = .ok (.putfield 15, 3) := dq daX1_copyFrom_0 (i := 26) rfl
theorem dX1_copyFrom_50 : decode cX1_copyFrom 50 = .ok (.aload_n 0, 1) := dq daX1_copyFrom_0 (i := 27) rfl
theorem dX1_copyFrom_51 : decode cX1_copyFrom 51 = .ok (.aload_n 1, 1) := dq daX1_copyFrom_0 (i := 28) rfl
theorem dX1_copyFrom_52 : decode cX1_copyFrom 52 = .ok (.getfield 25, 3) := dq daX1_copyFrom_0 (i := 29) rfl
theorem dX1_copyFrom_55 : decode cX1_copyFrom 55 = .ok (.putfield 25, 3) := dq daX1_copyFrom_0 (i := 30) rfl
theorem dX1_copyFrom_58 : decode cX1_copyFrom 58 = .ok (.return_, 1) := dq daX1_copyFrom_0 (i := 31) rfl
theorem daX1_isLike_0 : dchk cX1_isLike [(0, .aload_n 0, 1), (1, .getfield 19, 3), (4, .aload_n 1, 1), (5, .getfield 19, 3), (8, .if_icmp .ne 49, 3), (11, .aload_n 0, 1), (12, .getfield 15, 3), (15, .aload_n 1, 1), (16, .getfield 15, 3), (19, .if_icmp .ne 38, 3), (22, .aload_n 0, 1), (23, .getfield 25, 3), (26, .aload_n 1, 1), (27, .getfield 25, 3), (30, .lcmp, 1), (31, .ifCond .ne 26, 3), (34, .aload_n 0, 1), (35, .getfield 22, 3), (38, .aload_n 1, 1), (39, .getfield 22, 3), (42, .if_icmp .ne 15, 3), (45, .aload_n 0, 1), (46, .aload_n 1, 1), (47, .invokevirtual 29, 3), (50, .ifCond .ne 7, 3), (53, .iconst 1, 1), (54, .goto 4, 3), (57, .iconst 0, 1), (58, .ireturn, 1)] = true := by decide +kernel
theorem dX1_isLike_0 : decode cX1_isLike 0 = .ok (.aload_n 0, 1) := dq daX1_isLike_0 (i := 0) rfl
theorem dX1_isLike_1 : decode cX1_isLike 1 = .ok (.getfield 19, 3) := dq daX1_isLike_0 (i := 1) rfl
theorem dX1_isLike_4 : decode cX1_isLike 4 = .ok (.aload_n 1, 1) := dq daX1_isLike_0 (i := 2) rfl
theorem dX1_isLike_5 : decode cX1_isLike 5 = .ok (.getfield 19, 3) := dq daX1_isLike_0 (i := 3) rfl
theorem dX1_isLike_8 : decode cX1_isLike 8 = .ok (.if_icmp .ne 49, 3) := dq daX1_isLike_0 (i := 4) rfl
theorem dX1_isLike_11 : decode cX1_isLike 11 = .ok (.aload_n 0, 1) := dq daX1_isLike_0 (i := 5) rfl
theorem dX1_isLike_12 : decode cX1_isLike 12 = .ok (.getfield 15, 3) := dq daX1_isLike_0 (i := 6) rfl
theorem dX1_isLike_15 : decode cX1_isLike 15 = .ok (.aload_n 1, 1) := dq daX1_isLike_0 (i := 7) rfl
theorem dX1_isLike_16 : decode cX1_isLike 16 = .ok (.getfield 15, 3) := dq daX1_isLike_0 (i := 8) rfl
theorem dX1_isLike_19 : decode cX1_isLike 19 = .ok (.if_icmp .ne 38, 3) := dq daX1_isLike_0 (i := 9) rfl
theorem dX1_isLike_22 : decode cX1_isLike 22 = .ok (.aload_n 0, 1) := dq daX1_isLike_0 (i := 10) rfl
theorem dX1_isLike_23 : decode cX1_isLike 23 = .ok (.getfield 25, 3) := dq daX1_isLike_0 (i := 11) rfl
theorem dX1_isLike_26 : decode cX1_isLike 26 = .ok (.aload_n 1, 1) := dq daX1_isLike_0 (i := 12) rfl
theorem dX1_isLike_27 : decode cX1_isLike 27 = .ok (.getfield 25, 3) := dq daX1_isLike_0 (i := 13) rfl
theorem dX1_isLike_30 : decode cX1_isLike 30 = .ok (.lcmp, 1) := dq daX1_isLike_0 (i := 14) rfl
theorem dX1_isLike_31 : decode cX1_isLike 31 = .ok (.ifCond .ne 26, 3) := dq daX1_isLike_0 (i := 15) rfl
theorem dX1_isLike_34 : decode cX1_isLike 34 = .ok (.aload_n 0, 1) := dq daX1_isLike_0 (i := 16) rfl
theorem dX1_isLike_35 : decode cX1_isLike 35 = .ok (.getfield 22, 3) := dq daX1_isLike_0 (i := 17) rfl
theorem dX1_isLike_38 : decode cX1_isLike 38 = .ok (.aload_n 1, 1) := dq daX1_isLike_0 (i := 18) rfl
theorem dX1_isLike_39 : decode cX1_isLike 39 = .ok (.getfield 22, 3) := dq daX1_isLike_0 (i := 19) rfl
theorem dX1_isLike_42 : decode cX1_isLike 42 = .ok (.if_icmp .ne 15, 3) := dq daX1_isLike_0 (i := 20) rfl
theorem dX1_isLike_45 : decode cX1_isLike 45 = .ok (.aload_n 0, 1) := dq daX1_isLike_0 (i := 21) rfl
theorem dX1_isLike_46 : decode cX1_isLike 46 = .ok (.aload_n 1, 1) := dq daX1_isLike_0 (i := 22) rfl
theorem dX1_isLike_47 : decode cX1_isLike 47 = .ok (.invokevirtual 29, 3) := dq daX1_isLike_0 (i := 23) rfl
theorem dX1_isLike_50 : decode cX1_isLike 50 = .ok (.ifCond .ne 7, 3) := dq daX1_isLike_0 (i := 24) rfl
theorem dX1_isLike_53 : decode cX1_isLike 53 = .ok (.iconst 1, 1) := dq daX1_isLike_0 (i := 25) rfl
theorem dX1_isLike_54 : decode cX1_isLike 54 = .ok (.goto 4, 3) := dq daX1_isLike_0 (i := 26) rfl
theorem dX1_isLike_57 : decode cX1_isLike 57 = .ok (.iconst 0, 1) := dq daX1_isLike_0 (i := 27) rfl
theorem dX1_isLike_58 : decode cX1_isLike 58 = .ok (.ireturn, 1) := dq daX1_isLike_0 (i := 28) rfl
theorem daX1_unlikePowers_0 : dchk cX1_unlikePowers [(0, .iconst 0, 1), (1, .istore_n 2, 1), (2, .iconst 0, 1), (3, .istore_n 3, 1), (4, .iload_n 3, 1), (5, .aload_n 0, 1), (6, .getfield 22, 3), (9, .if_icmp .ge 33, 3), (12, .iload_n 3, 1), (13, .aload_n 1, 1), (14, .getfield 22, 3), (17, .if_icmp .ge 25, 3), (20, .aload_n 0, 1), (21, .iload_n 3, 1), (22, .invokevirtual 33, 3), (25, .aload_n 1, 1), (26, .iload_n 3, 1), (27, .invokevirtual 33, 3), (30, .if_icmp .eq 6, 3), (33, .iinc 2 1, 3), (36, .iinc 3 1, 3), (39, .goto (-35), 3), (42, .iload_n 2, 1), (43, .ireturn, 1)] = true := by decide +kernel
theorem dX1_unlikePowers_0 : decode cX1_unlikePowers 0 = .ok (.iconst 0, 1) := dq daX1_unlikePowers_0 (i := 0) rfl
theorem dX1_unlikePowers_1 : decode cX1_unlikePowers 1 = .ok (.istore_n 2, 1) := dq daX1_unlikePowers_0 (i := 1) rfl
theorem dX1_unlikePowers_2 : decode cX1_unlikePowers 2 = .ok (.iconst 0, 1) := dq daX1_unlikePowers_0 (i := 2) rfl
theorem dX1_unlikePowers_3 : decode cX1_unlikePowers 3 = .ok (.istore_n 3, 1) := dq daX1_unlikePowers_0 (i := 3) rfl
theorem dX1_unlikePowers_4 : decode cX1_unlikePowers 4 = .ok (.iload_n 3, 1) := dq daX1_unlikePowers_0 (i := 4) rfl
theorem dX1_unlikePowers_5 : decode cX1_unlikePowers 5 = .ok (.aload_n 0, 1) := dq daX1_unlikePowers_0 (i := 5) rfl
theorem dX1_unlikePowers_6 : decode cX1_unlikePowers 6 = .ok (.getfield 22, 3) := dq daX1_unlikePowers_0 (i := 6) rfl
theorem dX1_unlikePowers_9 : decode cX1_unlikePowers 9 = .ok (.if_icmp .ge 33, 3) := dq daX1_unlikePowers_0 (i := 7) rfl
theorem dX1_unlikePowers_12 : decode cX1_unlikePowers 12 = .ok (.iload_n 3, 1) := dq daX1_unlikePowers_0 (i := 8) rfl
theorem dX1_unlikePowers_13 : decode cX1_unlikePowers 13 = .ok (.aload_n 1, 1) := dq daX1_unlikePowers_0 (i := 9) rfl
theorem dX1_unlikePowers_14 : decode cX1_unlikePowers 14 = .ok (.getfield 22, 3) := dq daX1_unlikePowers_0 (i := 10) rfl
theorem dX1_unlikePowers_17 : decode cX1_unlikePowers 17 = .ok (.if_icmp .ge 25, 3) := dq daX1_unlikePowers_0 (i := 11) rfl
theorem dX1_unlikePowers_20 : decode cX1_unlikePowers 20 = .ok (.aload_n 0, 1) := dq daX1_unlikePowers_0 (i := 12) rfl
theorem dX1_unlikePowers_21 : decode cX1_unlikePowers 21 = .ok (.iload_n 3, 1) := dq daX1_unlikePowers_0 (i := 13) rfl
theorem dX1_unlikePowers_22 : decode cX1_unlikePowers 22 = .ok (.invokevirtual 33, 3) := dq daX1_unlikePowers_0 (i := 14) rfl
theorem dX1_unlikePowers_25 : decode cX1_unlikePowers 25 = .ok (.aload_n 1, 1) := dq daX1_unlikePowers_0 (i := 15) rfl
theorem dX1_unlikePowers_26 : decode cX1_unlikePowers 26 = .ok (.iload_n 3, 1) := dq daX1_unlikePowers_0 (i := 16) rfl
theorem dX1_unlikePowers_27 : decode cX1_unlikePowers 27 = .ok (.invokevirtual 33, 3) := dq daX1_unlikePowers_0 (i := 17) rfl
theorem dX1_unlikePowers_30 : decode cX1_unlikePowers 30 = .ok (.if_icmp .eq 6, 3) := dq daX1_unlikePowers_0 (i := 18) rfl
theorem dX1_unlikePowers_33 : decode cX1_unlikePowers 33 = .ok (.iinc 2 1, 3) := dq daX1_unlikePowers_0 (i := 19) rfl
theorem dX1_unlikePowers_36 : decode cX1_unlikePowers 36 = .ok (.iinc 3 1, 3) := dq daX1_unlikePowers_0 (i := 20) rfl
theorem dX1_unlikePowers_39 : decode cX1_unlikePowers 39 = .ok (.goto (-35), 3) := dq daX1_unlikePowers_0 (i := 21) rfl
theorem dX1_unlikePowers_42 : decode cX1_unlikePowers 42 = .ok (.iload_n 2, 1) := dq daX1_unlikePowers_0 (i := 22) rfl
theorem dX1_unlikePowers_43 : decode cX1_unlikePowers 43 = .ok (.ireturn, 1) := dq daX1_unlikePowers_0 (i := 23) rfl
theorem daX1_hasMark_0 : dchk cX1_hasMark [(0, .iload_n 1, 1), (1, .ifCond .lt 15, 3), (4, .iload_n 1, 1), (5, .aload_n 0, 1), (6, .getfield 22, 3), (9, .if_icmp .ge 7, 3), (12, .iconst 1, 1), (13, .goto 4, 3), (16, .iconst 0, 1), (17, .ireturn, 1)] = true := by decide +kernel
theorem dX1_hasMark_0 : decode cX1_hasMark 0 = .ok (.iload_n 1, 1) := dq daX1_hasMark_0 (i := 0) rfl
theorem dX1_hasMark_1 : decode cX1_hasMark 1 = .ok (.ifCond .lt 15, 3) := dq daX1_hasMark_0 (i := 1) rfl
theorem dX1_hasMark_4 : decode cX1_hasMark 4 = .ok (.iload_n 1, 1) := dq daX1_hasMark_0 (i := 2) rfl
theorem dX1_hasMark_5 : decode cX1_hasMark 5 = .ok (.aload_n 0, 1) := dq daX1_hasMark_0 (i := 3) rfl
theorem dX1_hasMark_6 : decode cX1_hasMark 6 = .ok (.getfield 22, 3) := dq daX1_hasMark_0 (i := 4) rfl
theorem dX1_hasMark_9 : decode cX1_hasMark 9 = .ok (.if_icmp .ge 7, 3) := dq daX1_hasMark_0 (i := 5) rfl
theorem dX1_hasMark_12 : decode cX1_hasMark 12 = .ok (.iconst 1, 1) := dq daX1_hasMark_0 (i := 6) rfl
theorem dX1_hasMark_13 : decode cX1_hasMark 13 = .ok (.goto 4, 3) := dq daX1_hasMark_0 (i := 7) rfl
theorem dX1_hasMark_16 : decode cX1_hasMark 16 = .ok (.iconst 0, 1) := dq daX1_hasMark_0 (i := 8) rfl
theorem dX1_hasMark_17 : decode cX1_hasMark 17 = .ok (.ireturn, 1) := dq daX1_hasMark_0 (i := 9) rfl
theorem daX1_powerAt_0 : dchk cX1_powerAt [(0, .iload_n 1, 1), (1, .ifCond .lt 18, 3), (4, .iload_n 1, 1), (5, .bipush 8, 2), (7, .if_icmp .ge 12, 3), (10, .aload_n 0, 1), (11, .getfield 9, 3), (14, .iload_n 1, 1), (15, .iaload, 1), (16, .goto 4, 3), (19, .iconst 0, 1), (20, .ireturn, 1)] = true := by decide +kernel
theorem dX1_powerAt_0 : decode cX1_powerAt 0 = .ok (.iload_n 1, 1) := dq daX1_powerAt_0 (i := 0) rfl
theorem dX1_powerAt_1 : decode cX1_powerAt 1 = .ok (.ifCond .lt 18, 3) := dq daX1_powerAt_0 (i := 1) rfl
theorem dX1_powerAt_4 : decode cX1_powerAt 4 = .ok (.iload_n 1, 1) := dq daX1_powerAt_0 (i := 2) rfl
theorem dX1_powerAt_5 : decode cX1_powerAt 5 = .ok (.bipush 8, 2) := dq daX1_powerAt_0 (i := 3) rfl
theorem dX1_powerAt_7 : decode cX1_powerAt 7 = .ok (.if_icmp .ge 12, 3) := dq daX1_powerAt_0 (i := 4) rfl
theorem dX1_powerAt_10 : decode cX1_powerAt 10 = .ok (.aload_n 0, 1) := dq daX1_powerAt_0 (i := 5) rfl
theorem dX1_powerAt_11 : decode cX1_powerAt 11 = .ok (.getfield 9, 3) := dq daX1_powerAt_0 (i := 6) rfl
theorem dX1_powerAt_14 : decode cX1_powerAt 14 = .ok (.iload_n 1, 1) := dq daX1_powerAt_0 (i := 7) rfl
theorem dX1_powerAt_15 : decode cX1_powerAt 15 = .ok (.iaload, 1) := dq daX1_powerAt_0 (i := 8) rfl
theorem dX1_powerAt_16 : decode cX1_powerAt 16 = .ok (.goto 4, 3) := dq daX1_powerAt_0 (i := 9) rfl
theorem dX1_powerAt_19 : decode cX1_powerAt 19 = .ok (.iconst 0, 1) := dq daX1_powerAt_0 (i := 10) rfl
theorem dX1_powerAt_20 : decode cX1_powerAt 20 = .ok (.ireturn, 1) := dq daX1_powerAt_0 (i := 11) rfl
theorem daX1_setPower_0 : dchk cX1_setPower [(0, .iload_n 1, 1), (1, .ifCond .lt 16, 3), (4, .iload_n 1, 1), (5, .bipush 8, 2), (7, .if_icmp .ge 10, 3), (10, .aload_n 0, 1), (11, .getfield 9, 3), (14, .iload_n 1, 1), (15, .iload_n 2, 1), (16, .iastore, 1), (17, .return_, 1)] = true := by decide +kernel
theorem dX1_setPower_0 : decode cX1_setPower 0 = .ok (.iload_n 1, 1) := dq daX1_setPower_0 (i := 0) rfl
theorem dX1_setPower_1 : decode cX1_setPower 1 = .ok (.ifCond .lt 16, 3) := dq daX1_setPower_0 (i := 1) rfl
theorem dX1_setPower_4 : decode cX1_setPower 4 = .ok (.iload_n 1, 1) := dq daX1_setPower_0 (i := 2) rfl
theorem dX1_setPower_5 : decode cX1_setPower 5 = .ok (.bipush 8, 2) := dq daX1_setPower_0 (i := 3) rfl
theorem dX1_setPower_7 : decode cX1_setPower 7 = .ok (.if_icmp .ge 10, 3) := dq daX1_setPower_0 (i := 4) rfl
theorem dX1_setPower_10 : decode cX1_setPower 10 = .ok (.aload_n 0, 1) := dq daX1_setPower_0 (i := 5) rfl
theorem dX1_setPower_11 : decode cX1_setPower 11 = .ok (.getfield 9, 3) := dq daX1_setPower_0 (i := 6) rfl
theorem dX1_setPower_14 : decode cX1_setPower 14 = .ok (.iload_n 1, 1) := dq daX1_setPower_0 (i := 7) rfl
theorem dX1_setPower_15 : decode cX1_setPower 15 = .ok (.iload_n 2, 1) := dq daX1_setPower_0 (i := 8) rfl
theorem dX1_setPower_16 : decode cX1_setPower 16 = .ok (.iastore, 1) := dq daX1_setPower_0 (i := 9) rfl
theorem dX1_setPower_17 : decode cX1_setPower 17 = .ok (.return_, 1) := dq daX1_setPower_0 (i := 10) rfl
theorem daX1_addMark_0 : dchk cX1_addMark [(0, .aload_n 0, 1), (1, .getfield 22, 3), (4, .bipush 8, 2), (6, .if_icmp .ge 22, 3), (9, .aload_n 0, 1), (10, .aload_n 0, 1), (11, .getfield 22, 3), (14, .iload_n 1, 1), (15, .invokevirtual 37, 3), (18, .aload_n 0, 1), (19, .dup, 1), (20, .getfield 22, 3), (23, .iconst 1, 1), (24, .iadd, 1), (25, .putfield 22, 3), (28, .return_, 1)] = true := by decide +kernel
theorem dX1_addMark_0 : decode cX1_addMark 0 = .ok (.aload_n 0, 1) := dq daX1_addMark_0 (i := 0) rfl
theorem dX1_addMark_1 : decode cX1_addMark 1 = .ok (.getfield 22, 3) := dq daX1_addMark_0 (i := 1) rfl
theorem dX1_addMark_4 : decode cX1_addMark 4 = .ok (.bipush 8, 2) := dq daX1_addMark_0 (i := 2) rfl
theorem dX1_addMark_6 : decode cX1_addMark 6 = .ok (.if_icmp .ge 22, 3) := dq daX1_addMark_0 (i := 3) rfl
theorem dX1_addMark_9 : decode cX1_addMark 9 = .ok (.aload_n 0, 1) := dq daX1_addMark_0 (i := 4) rfl
theorem dX1_addMark_10 : decode cX1_addMark 10 = .ok (.aload_n 0, 1) := dq daX1_addMark_0 (i := 5) rfl
theorem dX1_addMark_11 : decode cX1_addMark 11 = .ok (.getfield 22, 3) := dq daX1_addMark_0 (i := 6) rfl
theorem dX1_addMark_14 : decode cX1_addMark 14 = .ok (.iload_n 1, 1) := dq daX1_addMark_0 (i := 7) rfl
theorem dX1_addMark_15 : decode cX1_addMark 15 = .ok (.invokevirtual 37, 3) := dq daX1_addMark_0 (i := 8) rfl
theorem dX1_addMark_18 : decode cX1_addMark 18 = .ok (.aload_n 0, 1) := dq daX1_addMark_0 (i := 9) rfl
theorem dX1_addMark_19 : decode cX1_addMark 19 = .ok (.dup, 1) := dq daX1_addMark_0 (i := 10) rfl
theorem dX1_addMark_20 : decode cX1_addMark 20 = .ok (.getfield 22, 3) := dq daX1_addMark_0 (i := 11) rfl
theorem dX1_addMark_23 : decode cX1_addMark 23 = .ok (.iconst 1, 1) := dq daX1_addMark_0 (i := 12) rfl
theorem dX1_addMark_24 : decode cX1_addMark 24 = .ok (.iadd, 1) := dq daX1_addMark_0 (i := 13) rfl
theorem dX1_addMark_25 : decode cX1_addMark 25 = .ok (.putfield 22, 3) := dq daX1_addMark_0 (i := 14) rfl
theorem dX1_addMark_28 : decode cX1_addMark 28 = .ok (.return_, 1) := dq daX1_addMark_0 (i := 15) rfl
theorem daX1_dropMark_0 : dchk cX1_dropMark [(0, .iload_n 1, 1), (1, .istore_n 2, 1), (2, .iload_n 2, 1), (3, .aload_n 0, 1), (4, .getfield 22, 3), (7, .iconst 1, 1), (8, .isub, 1), (9, .if_icmp .ge 21, 3), (12, .aload_n 0, 1), (13, .iload_n 2, 1), (14, .aload_n 0, 1), (15, .iload_n 2, 1), (16, .iconst 1, 1), (17, .iadd, 1), (18, .invokevirtual 33, 3), (21, .invokevirtual 37, 3), (24, .iinc 2 1, 3), (27, .goto (-25), 3), (30, .aload_n 0, 1), (31, .dup, 1), (32, .getfield 22, 3), (35, .iconst 1, 1), (36, .isub, 1), (37, .putfield 22, 3), (40, .return_, 1)] = true := by decide +kernel
theorem dX1_dropMark_0 : decode cX1_dropMark 0 = .ok (.iload_n 1, 1) := dq daX1_dropMark_0 (i := 0) rfl
theorem dX1_dropMark_1 : decode cX1_dropMark 1 = .ok (.istore_n 2, 1) := dq daX1_dropMark_0 (i := 1) rfl
theorem dX1_dropMark_2 : decode cX1_dropMark 2 = .ok (.iload_n 2, 1) := dq daX1_dropMark_0 (i := 2) rfl
theorem dX1_dropMark_3 : decode cX1_dropMark 3 = .ok (.aload_n 0, 1) := dq daX1_dropMark_0 (i := 3) rfl
theorem dX1_dropMark_4 : decode cX1_dropMark 4 = .ok (.getfield 22, 3) := dq daX1_dropMark_0 (i := 4) rfl
theorem dX1_dropMark_7 : decode cX1_dropMark 7 = .ok (.iconst 1, 1) := dq daX1_dropMark_0 (i := 5) rfl
theorem dX1_dropMark_8 : decode cX1_dropMark 8 = .ok (.isub, 1) := dq daX1_dropMark_0 (i := 6) rfl
theorem dX1_dropMark_9 : decode cX1_dropMark 9 = .ok (.if_icmp .ge 21, 3) := dq daX1_dropMark_0 (i := 7) rfl
theorem dX1_dropMark_12 : decode cX1_dropMark 12 = .ok (.aload_n 0, 1) := dq daX1_dropMark_0 (i := 8) rfl
theorem dX1_dropMark_13 : decode cX1_dropMark 13 = .ok (.iload_n 2, 1) := dq daX1_dropMark_0 (i := 9) rfl
theorem dX1_dropMark_14 : decode cX1_dropMark 14 = .ok (.aload_n 0, 1) := dq daX1_dropMark_0 (i := 10) rfl
theorem dX1_dropMark_15 : decode cX1_dropMark 15 = .ok (.iload_n 2, 1) := dq daX1_dropMark_0 (i := 11) rfl
theorem dX1_dropMark_16 : decode cX1_dropMark 16 = .ok (.iconst 1, 1) := dq daX1_dropMark_0 (i := 12) rfl
theorem dX1_dropMark_17 : decode cX1_dropMark 17 = .ok (.iadd, 1) := dq daX1_dropMark_0 (i := 13) rfl
theorem dX1_dropMark_18 : decode cX1_dropMark 18 = .ok (.invokevirtual 33, 3) := dq daX1_dropMark_0 (i := 14) rfl
theorem dX1_dropMark_21 : decode cX1_dropMark 21 = .ok (.invokevirtual 37, 3) := dq daX1_dropMark_0 (i := 15) rfl
theorem dX1_dropMark_24 : decode cX1_dropMark 24 = .ok (.iinc 2 1, 3) := dq daX1_dropMark_0 (i := 16) rfl
theorem dX1_dropMark_27 : decode cX1_dropMark 27 = .ok (.goto (-25), 3) := dq daX1_dropMark_0 (i := 17) rfl
theorem dX1_dropMark_30 : decode cX1_dropMark 30 = .ok (.aload_n 0, 1) := dq daX1_dropMark_0 (i := 18) rfl
theorem dX1_dropMark_31 : decode cX1_dropMark 31 = .ok (.dup, 1) := dq daX1_dropMark_0 (i := 19) rfl
theorem dX1_dropMark_32 : decode cX1_dropMark 32 = .ok (.getfield 22, 3) := dq daX1_dropMark_0 (i := 20) rfl
theorem dX1_dropMark_35 : decode cX1_dropMark 35 = .ok (.iconst 1, 1) := dq daX1_dropMark_0 (i := 21) rfl
theorem dX1_dropMark_36 : decode cX1_dropMark 36 = .ok (.isub, 1) := dq daX1_dropMark_0 (i := 22) rfl
theorem dX1_dropMark_37 : decode cX1_dropMark 37 = .ok (.putfield 22, 3) := dq daX1_dropMark_0 (i := 23) rfl
theorem dX1_dropMark_40 : decode cX1_dropMark 40 = .ok (.return_, 1) := dq daX1_dropMark_0 (i := 24) rfl
theorem daX1_sortRising_0 : dchk cX1_sortRising [(0, .aload_n 0, 1), (1, .getfield 22, 3), (4, .iconst 1, 1), (5, .isub, 1), (6, .istore_n 1, 1), (7, .iload_n 1, 1), (8, .ifCond .le 45, 3), (11, .iconst 0, 1), (12, .istore_n 2, 1), (13, .iload_n 2, 1), (14, .iload_n 1, 1), (15, .if_icmp .ge 32, 3), (18, .aload_n 0, 1), (19, .iload_n 2, 1), (20, .invokevirtual 33, 3), (23, .aload_n 0, 1), (24, .iload_n 2, 1), (25, .iconst 1, 1), (26, .iadd, 1), (27, .invokevirtual 33, 3), (30, .if_icmp .le 11, 3), (33, .aload_n 0, 1), (34, .iload_n 2, 1), (35, .iload_n 2, 1), (36, .iconst 1, 1), (37, .iadd, 1), (38, .invokevirtual 41, 3), (41, .iinc 2 1, 3), (44, .goto (-31), 3), (47, .iinc 1 (-1), 3), (50, .goto (-43), 3), (53, .return_, 1)] = true := by decide +kernel
theorem dX1_sortRising_0 : decode cX1_sortRising 0 = .ok (.aload_n 0, 1) := dq daX1_sortRising_0 (i := 0) rfl
theorem dX1_sortRising_1 : decode cX1_sortRising 1 = .ok (.getfield 22, 3) := dq daX1_sortRising_0 (i := 1) rfl
theorem dX1_sortRising_4 : decode cX1_sortRising 4 = .ok (.iconst 1, 1) := dq daX1_sortRising_0 (i := 2) rfl
theorem dX1_sortRising_5 : decode cX1_sortRising 5 = .ok (.isub, 1) := dq daX1_sortRising_0 (i := 3) rfl
theorem dX1_sortRising_6 : decode cX1_sortRising 6 = .ok (.istore_n 1, 1) := dq daX1_sortRising_0 (i := 4) rfl
theorem dX1_sortRising_7 : decode cX1_sortRising 7 = .ok (.iload_n 1, 1) := dq daX1_sortRising_0 (i := 5) rfl
theorem dX1_sortRising_8 : decode cX1_sortRising 8 = .ok (.ifCond .le 45, 3) := dq daX1_sortRising_0 (i := 6) rfl
theorem dX1_sortRising_11 : decode cX1_sortRising 11 = .ok (.iconst 0, 1) := dq daX1_sortRising_0 (i := 7) rfl
theorem dX1_sortRising_12 : decode cX1_sortRising 12 = .ok (.istore_n 2, 1) := dq daX1_sortRising_0 (i := 8) rfl
theorem dX1_sortRising_13 : decode cX1_sortRising 13 = .ok (.iload_n 2, 1) := dq daX1_sortRising_0 (i := 9) rfl
theorem dX1_sortRising_14 : decode cX1_sortRising 14 = .ok (.iload_n 1, 1) := dq daX1_sortRising_0 (i := 10) rfl
theorem dX1_sortRising_15 : decode cX1_sortRising 15 = .ok (.if_icmp .ge 32, 3) := dq daX1_sortRising_0 (i := 11) rfl
theorem dX1_sortRising_18 : decode cX1_sortRising 18 = .ok (.aload_n 0, 1) := dq daX1_sortRising_0 (i := 12) rfl
theorem dX1_sortRising_19 : decode cX1_sortRising 19 = .ok (.iload_n 2, 1) := dq daX1_sortRising_0 (i := 13) rfl
theorem dX1_sortRising_20 : decode cX1_sortRising 20 = .ok (.invokevirtual 33, 3) := dq daX1_sortRising_0 (i := 14) rfl
theorem dX1_sortRising_23 : decode cX1_sortRising 23 = .ok (.aload_n 0, 1) := dq daX1_sortRising_0 (i := 15) rfl
theorem dX1_sortRising_24 : decode cX1_sortRising 24 = .ok (.iload_n 2, 1) := dq daX1_sortRising_0 (i := 16) rfl
theorem dX1_sortRising_25 : decode cX1_sortRising 25 = .ok (.iconst 1, 1) := dq daX1_sortRising_0 (i := 17) rfl
theorem dX1_sortRising_26 : decode cX1_sortRising 26 = .ok (.iadd, 1) := dq daX1_sortRising_0 (i := 18) rfl
theorem dX1_sortRising_27 : decode cX1_sortRising 27 = .ok (.invokevirtual 33, 3) := dq daX1_sortRising_0 (i := 19) rfl
theorem dX1_sortRising_30 : decode cX1_sortRising 30 = .ok (.if_icmp .le 11, 3) := dq daX1_sortRising_0 (i := 20) rfl
theorem dX1_sortRising_33 : decode cX1_sortRising 33 = .ok (.aload_n 0, 1) := dq daX1_sortRising_0 (i := 21) rfl
theorem dX1_sortRising_34 : decode cX1_sortRising 34 = .ok (.iload_n 2, 1) := dq daX1_sortRising_0 (i := 22) rfl
theorem dX1_sortRising_35 : decode cX1_sortRising 35 = .ok (.iload_n 2, 1) := dq daX1_sortRising_0 (i := 23) rfl
theorem dX1_sortRising_36 : decode cX1_sortRising 36 = .ok (.iconst 1, 1) := dq daX1_sortRising_0 (i := 24) rfl
theorem dX1_sortRising_37 : decode cX1_sortRising 37 = .ok (.iadd, 1) := dq daX1_sortRising_0 (i := 25) rfl
theorem dX1_sortRising_38 : decode cX1_sortRising 38 = .ok (.invokevirtual 41, 3) := dq daX1_sortRising_0 (i := 26) rfl
theorem dX1_sortRising_41 : decode cX1_sortRising 41 = .ok (.iinc 2 1, 3) := dq daX1_sortRising_0 (i := 27) rfl
theorem dX1_sortRising_44 : decode cX1_sortRising 44 = .ok (.goto (-31), 3) := dq daX1_sortRising_0 (i := 28) rfl
theorem dX1_sortRising_47 : decode cX1_sortRising 47 = .ok (.iinc 1 (-1), 3) := dq daX1_sortRising_0 (i := 29) rfl
theorem dX1_sortRising_50 : decode cX1_sortRising 50 = .ok (.goto (-43), 3) := dq daX1_sortRising_0 (i := 30) rfl
theorem dX1_sortRising_53 : decode cX1_sortRising 53 = .ok (.return_, 1) := dq daX1_sortRising_0 (i := 31) rfl
theorem daX1_turnAbout_0 : dchk cX1_turnAbout [(0, .iconst 0, 1), (1, .istore_n 1, 1), (2, .iload_n 1, 1), (3, .aload_n 0, 1), (4, .getfield 22, 3), (7, .iconst 2, 1), (8, .idiv, 1), (9, .if_icmp .ge 22, 3), (12, .aload_n 0, 1), (13, .iload_n 1, 1), (14, .aload_n 0, 1), (15, .getfield 22, 3), (18, .iconst 1, 1), (19, .isub, 1), (20, .iload_n 1, 1), (21, .isub, 1), (22, .invokevirtual 41, 3), (25, .iinc 1 1, 3), (28, .goto (-26), 3), (31, .return_, 1)] = true := by decide +kernel
theorem dX1_turnAbout_0 : decode cX1_turnAbout 0 = .ok (.iconst 0, 1) := dq daX1_turnAbout_0 (i := 0) rfl
theorem dX1_turnAbout_1 : decode cX1_turnAbout 1 = .ok (.istore_n 1, 1) := dq daX1_turnAbout_0 (i := 1) rfl
theorem dX1_turnAbout_2 : decode cX1_turnAbout 2 = .ok (.iload_n 1, 1) := dq daX1_turnAbout_0 (i := 2) rfl
theorem dX1_turnAbout_3 : decode cX1_turnAbout 3 = .ok (.aload_n 0, 1) := dq daX1_turnAbout_0 (i := 3) rfl
theorem dX1_turnAbout_4 : decode cX1_turnAbout 4 = .ok (.getfield 22, 3) := dq daX1_turnAbout_0 (i := 4) rfl
theorem dX1_turnAbout_7 : decode cX1_turnAbout 7 = .ok (.iconst 2, 1) := dq daX1_turnAbout_0 (i := 5) rfl
theorem dX1_turnAbout_8 : decode cX1_turnAbout 8 = .ok (.idiv, 1) := dq daX1_turnAbout_0 (i := 6) rfl
theorem dX1_turnAbout_9 : decode cX1_turnAbout 9 = .ok (.if_icmp .ge 22, 3) := dq daX1_turnAbout_0 (i := 7) rfl
theorem dX1_turnAbout_12 : decode cX1_turnAbout 12 = .ok (.aload_n 0, 1) := dq daX1_turnAbout_0 (i := 8) rfl
theorem dX1_turnAbout_13 : decode cX1_turnAbout 13 = .ok (.iload_n 1, 1) := dq daX1_turnAbout_0 (i := 9) rfl
theorem dX1_turnAbout_14 : decode cX1_turnAbout 14 = .ok (.aload_n 0, 1) := dq daX1_turnAbout_0 (i := 10) rfl
theorem dX1_turnAbout_15 : decode cX1_turnAbout 15 = .ok (.getfield 22, 3) := dq daX1_turnAbout_0 (i := 11) rfl
theorem dX1_turnAbout_18 : decode cX1_turnAbout 18 = .ok (.iconst 1, 1) := dq daX1_turnAbout_0 (i := 12) rfl
theorem dX1_turnAbout_19 : decode cX1_turnAbout 19 = .ok (.isub, 1) := dq daX1_turnAbout_0 (i := 13) rfl
theorem dX1_turnAbout_20 : decode cX1_turnAbout 20 = .ok (.iload_n 1, 1) := dq daX1_turnAbout_0 (i := 14) rfl
theorem dX1_turnAbout_21 : decode cX1_turnAbout 21 = .ok (.isub, 1) := dq daX1_turnAbout_0 (i := 15) rfl
theorem dX1_turnAbout_22 : decode cX1_turnAbout 22 = .ok (.invokevirtual 41, 3) := dq daX1_turnAbout_0 (i := 16) rfl
theorem dX1_turnAbout_25 : decode cX1_turnAbout 25 = .ok (.iinc 1 1, 3) := dq daX1_turnAbout_0 (i := 17) rfl
theorem dX1_turnAbout_28 : decode cX1_turnAbout 28 = .ok (.goto (-26), 3) := dq daX1_turnAbout_0 (i := 18) rfl
theorem dX1_turnAbout_31 : decode cX1_turnAbout 31 = .ok (.return_, 1) := dq daX1_turnAbout_0 (i := 19) rfl
theorem daX1_putFirstLast_0 : dchk cX1_putFirstLast [(0, .iconst 0, 1), (1, .istore_n 1, 1), (2, .iload_n 1, 1), (3, .aload_n 0, 1), (4, .getfield 22, 3), (7, .iconst 1, 1), (8, .isub, 1), (9, .if_icmp .ge 17, 3), (12, .aload_n 0, 1), (13, .iload_n 1, 1), (14, .iload_n 1, 1), (15, .iconst 1, 1), (16, .iadd, 1), (17, .invokevirtual 41, 3), (20, .iinc 1 1, 3), (23, .goto (-21), 3), (26, .return_, 1)] = true := by decide +kernel
theorem dX1_putFirstLast_0 : decode cX1_putFirstLast 0 = .ok (.iconst 0, 1) := dq daX1_putFirstLast_0 (i := 0) rfl
theorem dX1_putFirstLast_1 : decode cX1_putFirstLast 1 = .ok (.istore_n 1, 1) := dq daX1_putFirstLast_0 (i := 1) rfl
theorem dX1_putFirstLast_2 : decode cX1_putFirstLast 2 = .ok (.iload_n 1, 1) := dq daX1_putFirstLast_0 (i := 2) rfl
theorem dX1_putFirstLast_3 : decode cX1_putFirstLast 3 = .ok (.aload_n 0, 1) := dq daX1_putFirstLast_0 (i := 3) rfl
theorem dX1_putFirstLast_4 : decode cX1_putFirstLast 4 = .ok (.getfield 22, 3) := dq daX1_putFirstLast_0 (i := 4) rfl
theorem dX1_putFirstLast_7 : decode cX1_putFirstLast 7 = .ok (.iconst 1, 1) := dq daX1_putFirstLast_0 (i := 5) rfl
theorem dX1_putFirstLast_8 : decode cX1_putFirstLast 8 = .ok (.isub, 1) := dq daX1_putFirstLast_0 (i := 6) rfl
theorem dX1_putFirstLast_9 : decode cX1_putFirstLast 9 = .ok (.if_icmp .ge 17, 3) := dq daX1_putFirstLast_0 (i := 7) rfl
theorem dX1_putFirstLast_12 : decode cX1_putFirstLast 12 = .ok (.aload_n 0, 1) := dq daX1_putFirstLast_0 (i := 8) rfl
theorem dX1_putFirstLast_13 : decode cX1_putFirstLast 13 = .ok (.iload_n 1, 1) := dq daX1_putFirstLast_0 (i := 9) rfl
theorem dX1_putFirstLast_14 : decode cX1_putFirstLast 14 = .ok (.iload_n 1, 1) := dq daX1_putFirstLast_0 (i := 10) rfl
theorem dX1_putFirstLast_15 : decode cX1_putFirstLast 15 = .ok (.iconst 1, 1) := dq daX1_putFirstLast_0 (i := 11) rfl
theorem dX1_putFirstLast_16 : decode cX1_putFirstLast 16 = .ok (.iadd, 1) := dq daX1_putFirstLast_0 (i := 12) rfl
theorem dX1_putFirstLast_17 : decode cX1_putFirstLast 17 = .ok (.invokevirtual 41, 3) := dq daX1_putFirstLast_0 (i := 13) rfl
theorem dX1_putFirstLast_20 : decode cX1_putFirstLast 20 = .ok (.iinc 1 1, 3) := dq daX1_putFirstLast_0 (i := 14) rfl
theorem dX1_putFirstLast_23 : decode cX1_putFirstLast 23 = .ok (.goto (-21), 3) := dq daX1_putFirstLast_0 (i := 15) rfl
theorem dX1_putFirstLast_26 : decode cX1_putFirstLast 26 = .ok (.return_, 1) := dq daX1_putFirstLast_0 (i := 16) rfl
theorem daX1_swap_0 : dchk cX1_swap [(0, .aload_n 0, 1), (1, .iload_n 1, 1), (2, .invokevirtual 33, 3), (5, .istore_n 3, 1), (6, .aload_n 0, 1), (7, .iload_n 1, 1), (8, .aload_n 0, 1), (9, .iload_n 2, 1), (10, .invokevirtual 33, 3), (13, .invokevirtual 37, 3), (16, .aload_n 0, 1), (17, .iload_n 2, 1), (18, .iload_n 3, 1), (19, .invokevirtual 37, 3), (22, .return_, 1)] = true := by decide +kernel
theorem dX1_swap_0 : decode cX1_swap 0 = .ok (.aload_n 0, 1) := dq daX1_swap_0 (i := 0) rfl
theorem dX1_swap_1 : decode cX1_swap 1 = .ok (.iload_n 1, 1) := dq daX1_swap_0 (i := 1) rfl
theorem dX1_swap_2 : decode cX1_swap 2 = .ok (.invokevirtual 33, 3) := dq daX1_swap_0 (i := 2) rfl
theorem dX1_swap_5 : decode cX1_swap 5 = .ok (.istore_n 3, 1) := dq daX1_swap_0 (i := 3) rfl
theorem dX1_swap_6 : decode cX1_swap 6 = .ok (.aload_n 0, 1) := dq daX1_swap_0 (i := 4) rfl
theorem dX1_swap_7 : decode cX1_swap 7 = .ok (.iload_n 1, 1) := dq daX1_swap_0 (i := 5) rfl
theorem dX1_swap_8 : decode cX1_swap 8 = .ok (.aload_n 0, 1) := dq daX1_swap_0 (i := 6) rfl
theorem dX1_swap_9 : decode cX1_swap 9 = .ok (.iload_n 2, 1) := dq daX1_swap_0 (i := 7) rfl
theorem dX1_swap_10 : decode cX1_swap 10 = .ok (.invokevirtual 33, 3) := dq daX1_swap_0 (i := 8) rfl
theorem dX1_swap_13 : decode cX1_swap 13 = .ok (.invokevirtual 37, 3) := dq daX1_swap_0 (i := 9) rfl
theorem dX1_swap_16 : decode cX1_swap 16 = .ok (.aload_n 0, 1) := dq daX1_swap_0 (i := 10) rfl
theorem dX1_swap_17 : decode cX1_swap 17 = .ok (.iload_n 2, 1) := dq daX1_swap_0 (i := 11) rfl
theorem dX1_swap_18 : decode cX1_swap 18 = .ok (.iload_n 3, 1) := dq daX1_swap_0 (i := 12) rfl
theorem dX1_swap_19 : decode cX1_swap 19 = .ok (.invokevirtual 37, 3) := dq daX1_swap_0 (i := 13) rfl
theorem dX1_swap_22 : decode cX1_swap 22 = .ok (.return_, 1) := dq daX1_swap_0 (i := 14) rfl
theorem daX2_init_0 : dchk cX2_init [(0, .aload_n 0, 1), (1, .invokespecial 3, 3), (4, .aload_n 0, 1), (5, .bipush 20, 2), (7, .newarray .int, 2), (9, .putfield 11, 3), (12, .return_, 1)] = true := by decide +kernel
theorem dX2_init_0 : decode cX2_init 0 = .ok (.aload_n 0, 1) := dq daX2_init_0 (i := 0) rfl
theorem dX2_init_1 : decode cX2_init 1 = .ok (.invokespecial 3, 3) := dq daX2_init_0 (i := 1) rfl
theorem dX2_init_4 : decode cX2_init 4 = .ok (.aload_n 0, 1) := dq daX2_init_0 (i := 2) rfl
theorem dX2_init_5 : decode cX2_init 5 = .ok (.bipush 20, 2) := dq daX2_init_0 (i := 3) rfl
theorem dX2_init_7 : decode cX2_init 7 = .ok (.newarray .int, 2) := dq daX2_init_0 (i := 4) rfl
theorem dX2_init_9 : decode cX2_init 9 = .ok (.putfield 11, 3) := dq daX2_init_0 (i := 5) rfl
theorem dX2_init_12 : decode cX2_init 12 = .ok (.return_, 1) := dq daX2_init_0 (i := 6) rfl
theorem daX2_holdNumber_0 : dchk cX2_holdNumber [(0, .aload_n 0, 1), (1, .iconst 1, 1), (2, .putfield 15, 3), (5, .aload_n 0, 1), (6, .lload_n 1, 1), (7, .putfield 19, 3), (10, .return_, 1)] = true := by decide +kernel
theorem dX2_holdNumber_0 : decode cX2_holdNumber 0 = .ok (.aload_n 0, 1) := dq daX2_holdNumber_0 (i := 0) rfl
theorem dX2_holdNumber_1 : decode cX2_holdNumber 1 = .ok (.iconst 1, 1) := dq daX2_holdNumber_0 (i := 1) rfl
theorem dX2_holdNumber_2 : decode cX2_holdNumber 2 = .ok (.putfield 15, 3) := dq daX2_holdNumber_0 (i := 2) rfl
theorem dX2_holdNumber_5 : decode cX2_holdNumber 5 = .ok (.aload_n 0, 1) := dq daX2_holdNumber_0 (i := 3) rfl
theorem dX2_holdNumber_6 : decode cX2_holdNumber 6 = .ok (.lload_n 1, 1) := dq daX2_holdNumber_0 (i := 4) rfl
theorem dX2_holdNumber_7 : decode cX2_holdNumber 7 = .ok (.putfield 19, 3) := dq daX2_holdNumber_0 (i := 5) rfl
theorem dX2_holdNumber_10 : decode cX2_holdNumber 10 = .ok (.return_, 1) := dq daX2_holdNumber_0 (i := 6) rfl
theorem daX2_holdTree_0 : dchk cX2_holdTree [(0, .aload_n 0, 1), (1, .iconst 2, 1), (2, .putfield 15, 3), (5, .aload_n 0, 1), (6, .lload_n 1, 1), (7, .putfield 23, 3), (10, .aload_n 0, 1), (11, .iload_n 3, 1), (12, .putfield 26, 3), (15, .return_, 1)] = true := by decide +kernel
theorem dX2_holdTree_0 : decode cX2_holdTree 0 = .ok (.aload_n 0, 1) := dq daX2_holdTree_0 (i := 0) rfl
theorem dX2_holdTree_1 : decode cX2_holdTree 1 = .ok (.iconst 2, 1) := dq daX2_holdTree_0 (i := 1) rfl
theorem dX2_holdTree_2 : decode cX2_holdTree 2 = .ok (.putfield 15, 3) := dq daX2_holdTree_0 (i := 2) rfl
theorem dX2_holdTree_5 : decode cX2_holdTree 5 = .ok (.aload_n 0, 1) := dq daX2_holdTree_0 (i := 3) rfl
theorem dX2_holdTree_6 : decode cX2_holdTree 6 = .ok (.lload_n 1, 1) := dq daX2_holdTree_0 (i := 4) rfl
theorem dX2_holdTree_7 : decode cX2_holdTree 7 = .ok (.putfield 23, 3) := dq daX2_holdTree_0 (i := 5) rfl
theorem dX2_holdTree_10 : decode cX2_holdTree 10 = .ok (.aload_n 0, 1) := dq daX2_holdTree_0 (i := 6) rfl
theorem dX2_holdTree_11 : decode cX2_holdTree 11 = .ok (.iload_n 3, 1) := dq daX2_holdTree_0 (i := 7) rfl
theorem dX2_holdTree_12 : decode cX2_holdTree 12 = .ok (.putfield 26, 3) := dq daX2_holdTree_0 (i := 8) rfl
theorem dX2_holdTree_15 : decode cX2_holdTree 15 = .ok (.return_, 1) := dq daX2_holdTree_0 (i := 9) rfl
theorem daX2_holdRow_0 : dchk cX2_holdRow [(0, .aload_n 0, 1), (1, .iconst 3, 1), (2, .putfield 15, 3), (5, .aload_n 0, 1), (6, .iload_n 1, 1), (7, .putfield 29, 3), (10, .iconst 0, 1), (11, .istore_n 2, 1), (12, .iload_n 2, 1), (13, .bipush 20, 2), (15, .if_icmp .ge 16, 3), (18, .aload_n 0, 1), (19, .getfield 11, 3), (22, .iload_n 2, 1), (23, .iconst 0, 1), (24, .iastore, 1), (25, .iinc 2 1, 3), (28, .goto (-16), 3), (31, .return_, 1)] = true := by decide +kernel
theorem dX2_holdRow_0 : decode cX2_holdRow 0 = .ok (.aload_n 0, 1) := dq daX2_holdRow_0 (i := 0) rfl
theorem dX2_holdRow_1 : decode cX2_holdRow 1 = .ok (.iconst 3, 1) := dq daX2_holdRow_0 (i := 1) rfl
theorem dX2_holdRow_2 : decode cX2_holdRow 2 = .ok (.putfield 15, 3) := dq daX2_holdRow_0 (i := 2) rfl
theorem dX2_holdRow_5 : decode cX2_holdRow 5 = .ok (.aload_n 0, 1) := dq daX2_holdRow_0 (i := 3) rfl
theorem dX2_holdRow_6 : decode cX2_holdRow 6 = .ok (.iload_n 1, 1) := dq daX2_holdRow_0 (i := 4) rfl
theorem dX2_holdRow_7 : decode cX2_holdRow 7 = .ok (.putfield 29, 3) := dq daX2_holdRow_0 (i := 5) rfl
theorem dX2_holdRow_10 : decode cX2_holdRow 10 = .ok (.iconst 0, 1) := dq daX2_holdRow_0 (i := 6) rfl
theorem dX2_holdRow_11 : decode cX2_holdRow 11 = .ok (.istore_n 2, 1) := dq daX2_holdRow_0 (i := 7) rfl
theorem dX2_holdRow_12 : decode cX2_holdRow 12 = .ok (.iload_n 2, 1) := dq daX2_holdRow_0 (i := 8) rfl
theorem dX2_holdRow_13 : decode cX2_holdRow 13 = .ok (.bipush 20, 2) := dq daX2_holdRow_0 (i := 9) rfl
theorem dX2_holdRow_15 : decode cX2_holdRow 15 = .ok (.if_icmp .ge 16, 3) := dq daX2_holdRow_0 (i := 10) rfl
theorem dX2_holdRow_18 : decode cX2_holdRow 18 = .ok (.aload_n 0, 1) := dq daX2_holdRow_0 (i := 11) rfl
theorem dX2_holdRow_19 : decode cX2_holdRow 19 = .ok (.getfield 11, 3) := dq daX2_holdRow_0 (i := 12) rfl
theorem dX2_holdRow_22 : decode cX2_holdRow 22 = .ok (.iload_n 2, 1) := dq daX2_holdRow_0 (i := 13) rfl
theorem dX2_holdRow_23 : decode cX2_holdRow 23 = .ok (.iconst 0, 1) := dq daX2_holdRow_0 (i := 14) rfl
theorem dX2_holdRow_24 : decode cX2_holdRow 24 = .ok (.iastore, 1) := dq daX2_holdRow_0 (i := 15) rfl
theorem dX2_holdRow_25 : decode cX2_holdRow 25 = .ok (.iinc 2 1, 3) := dq daX2_holdRow_0 (i := 16) rfl
theorem dX2_holdRow_28 : decode cX2_holdRow 28 = .ok (.goto (-16), 3) := dq daX2_holdRow_0 (i := 17) rfl
theorem dX2_holdRow_31 : decode cX2_holdRow 31 = .ok (.return_, 1) := dq daX2_holdRow_0 (i := 18) rfl
theorem daX2_hasPlace_0 : dchk cX2_hasPlace [(0, .iload_n 1, 1), (1, .ifCond .lt 21, 3), (4, .iload_n 1, 1), (5, .aload_n 0, 1), (6, .getfield 29, 3), (9, .if_icmp .ge 13, 3), (12, .iload_n 1, 1), (13, .bipush 20, 2), (15, .if_icmp .ge 7, 3), (18, .iconst 1, 1), (19, .goto 4, 3), (22, .iconst 0, 1), (23, .ireturn, 1)] = true := by decide +kernel
theorem dX2_hasPlace_0 : decode cX2_hasPlace 0 = .ok (.iload_n 1, 1) := dq daX2_hasPlace_0 (i := 0) rfl
theorem dX2_hasPlace_1 : decode cX2_hasPlace 1 = .ok (.ifCond .lt 21, 3) := dq daX2_hasPlace_0 (i := 1) rfl
theorem dX2_hasPlace_4 : decode cX2_hasPlace 4 = .ok (.iload_n 1, 1) := dq daX2_hasPlace_0 (i := 2) rfl
theorem dX2_hasPlace_5 : decode cX2_hasPlace 5 = .ok (.aload_n 0, 1) := dq daX2_hasPlace_0 (i := 3) rfl
theorem dX2_hasPlace_6 : decode cX2_hasPlace 6 = .ok (.getfield 29, 3) := dq daX2_hasPlace_0 (i := 4) rfl
theorem dX2_hasPlace_9 : decode cX2_hasPlace 9 = .ok (.if_icmp .ge 13, 3) := dq daX2_hasPlace_0 (i := 5) rfl
theorem dX2_hasPlace_12 : decode cX2_hasPlace 12 = .ok (.iload_n 1, 1) := dq daX2_hasPlace_0 (i := 6) rfl
theorem dX2_hasPlace_13 : decode cX2_hasPlace 13 = .ok (.bipush 20, 2) := dq daX2_hasPlace_0 (i := 7) rfl
theorem dX2_hasPlace_15 : decode cX2_hasPlace 15 = .ok (.if_icmp .ge 7, 3) := dq daX2_hasPlace_0 (i := 8) rfl
theorem dX2_hasPlace_18 : decode cX2_hasPlace 18 = .ok (.iconst 1, 1) := dq daX2_hasPlace_0 (i := 9) rfl
theorem dX2_hasPlace_19 : decode cX2_hasPlace 19 = .ok (.goto 4, 3) := dq daX2_hasPlace_0 (i := 10) rfl
theorem dX2_hasPlace_22 : decode cX2_hasPlace 22 = .ok (.iconst 0, 1) := dq daX2_hasPlace_0 (i := 11) rfl
theorem dX2_hasPlace_23 : decode cX2_hasPlace 23 = .ok (.ireturn, 1) := dq daX2_hasPlace_0 (i := 12) rfl
theorem daX2_isOfKind_0 : dchk cX2_isOfKind [(0, .iload_n 1, 1), (1, .ifCond .ne 17, 3), (4, .aload_n 0, 1), (5, .getfield 15, 3), (8, .iconst 1, 1), (9, .if_icmp .ne 7, 3), (12, .iconst 1, 1), (13, .goto 4, 3), (16, .iconst 0, 1), (17, .ireturn, 1), (18, .aload_n 0, 1), (19, .getfield 15, 3), (22, .iconst 2, 1), (23, .if_icmp .eq 5, 3), (26, .iconst 0, 1), (27, .ireturn, 1), (28, .iload_n 1, 1), (29, .tableswitch 56 1 3 #[27, 29, 34], 27), (56, .iconst 1, 1), (57, .ireturn, 1), (58, .aload_n 0, 1), (59, .invokevirtual 32, 3), (62, .ireturn, 1), (63, .aload_n 0, 1), (64, .getfield 23, 3), (67, .lconst 0, 1), (68, .lcmp, 1), (69, .ifCond .ne 14, 3), (72, .aload_n 0, 1), (73, .invokevirtual 32, 3), (76, .ifCond .ne 7, 3), (79, .iconst 1, 1), (80, .goto 4, 3), (83, .iconst 0, 1), (84, .ireturn, 1), (85, .iconst 0, 1), (86, .ireturn, 1)] = true := by decide +kernel
theorem dX2_isOfKind_0 : decode cX2_isOfKind 0 = .ok (.iload_n 1, 1) := dq daX2_isOfKind_0 (i := 0) rfl
theorem dX2_isOfKind_1 : decode cX2_isOfKind 1 = .ok (.ifCond .ne 17, 3) := dq daX2_isOfKind_0 (i := 1) rfl
theorem dX2_isOfKind_4 : decode cX2_isOfKind 4 = .ok (.aload_n 0, 1) := dq daX2_isOfKind_0 (i := 2) rfl
theorem dX2_isOfKind_5 : decode cX2_isOfKind 5 = .ok (.getfield 15, 3) := dq daX2_isOfKind_0 (i := 3) rfl
theorem dX2_isOfKind_8 : decode cX2_isOfKind 8 = .ok (.iconst 1, 1) := dq daX2_isOfKind_0 (i := 4) rfl
theorem dX2_isOfKind_9 : decode cX2_isOfKind 9 = .ok (.if_icmp .ne 7, 3) := dq daX2_isOfKind_0 (i := 5) rfl
theorem dX2_isOfKind_12 : decode cX2_isOfKind 12 = .ok (.iconst 1, 1) := dq daX2_isOfKind_0 (i := 6) rfl
theorem dX2_isOfKind_13 : decode cX2_isOfKind 13 = .ok (.goto 4, 3) := dq daX2_isOfKind_0 (i := 7) rfl
theorem dX2_isOfKind_16 : decode cX2_isOfKind 16 = .ok (.iconst 0, 1) := dq daX2_isOfKind_0 (i := 8) rfl
theorem dX2_isOfKind_17 : decode cX2_isOfKind 17 = .ok (.ireturn, 1) := dq daX2_isOfKind_0 (i := 9) rfl
theorem dX2_isOfKind_18 : decode cX2_isOfKind 18 = .ok (.aload_n 0, 1) := dq daX2_isOfKind_0 (i := 10) rfl
theorem dX2_isOfKind_19 : decode cX2_isOfKind 19 = .ok (.getfield 15, 3) := dq daX2_isOfKind_0 (i := 11) rfl
theorem dX2_isOfKind_22 : decode cX2_isOfKind 22 = .ok (.iconst 2, 1) := dq daX2_isOfKind_0 (i := 12) rfl
theorem dX2_isOfKind_23 : decode cX2_isOfKind 23 = .ok (.if_icmp .eq 5, 3) := dq daX2_isOfKind_0 (i := 13) rfl
theorem dX2_isOfKind_26 : decode cX2_isOfKind 26 = .ok (.iconst 0, 1) := dq daX2_isOfKind_0 (i := 14) rfl
theorem dX2_isOfKind_27 : decode cX2_isOfKind 27 = .ok (.ireturn, 1) := dq daX2_isOfKind_0 (i := 15) rfl
theorem dX2_isOfKind_28 : decode cX2_isOfKind 28 = .ok (.iload_n 1, 1) := dq daX2_isOfKind_0 (i := 16) rfl
theorem dX2_isOfKind_29 : decode cX2_isOfKind 29 = .ok (.tableswitch 56 1 3 #[27, 29, 34], 27) := dq daX2_isOfKind_0 (i := 17) rfl
theorem dX2_isOfKind_56 : decode cX2_isOfKind 56 = .ok (.iconst 1, 1) := dq daX2_isOfKind_0 (i := 18) rfl
theorem dX2_isOfKind_57 : decode cX2_isOfKind 57 = .ok (.ireturn, 1) := dq daX2_isOfKind_0 (i := 19) rfl
theorem dX2_isOfKind_58 : decode cX2_isOfKind 58 = .ok (.aload_n 0, 1) := dq daX2_isOfKind_0 (i := 20) rfl
theorem dX2_isOfKind_59 : decode cX2_isOfKind 59 = .ok (.invokevirtual 32, 3) := dq daX2_isOfKind_0 (i := 21) rfl
theorem dX2_isOfKind_62 : decode cX2_isOfKind 62 = .ok (.ireturn, 1) := dq daX2_isOfKind_0 (i := 22) rfl
theorem dX2_isOfKind_63 : decode cX2_isOfKind 63 = .ok (.aload_n 0, 1) := dq daX2_isOfKind_0 (i := 23) rfl
theorem dX2_isOfKind_64 : decode cX2_isOfKind 64 = .ok (.getfield 23, 3) := dq daX2_isOfKind_0 (i := 24) rfl
theorem dX2_isOfKind_67 : decode cX2_isOfKind 67 = .ok (.lconst 0, 1) := dq daX2_isOfKind_0 (i := 25) rfl
theorem dX2_isOfKind_68 : decode cX2_isOfKind 68 = .ok (.lcmp, 1) := dq daX2_isOfKind_0 (i := 26) rfl
theorem dX2_isOfKind_69 : decode cX2_isOfKind 69 = .ok (.ifCond .ne 14, 3) := dq daX2_isOfKind_0 (i := 27) rfl
theorem dX2_isOfKind_72 : decode cX2_isOfKind 72 = .ok (.aload_n 0, 1) := dq daX2_isOfKind_0 (i := 28) rfl
theorem dX2_isOfKind_73 : decode cX2_isOfKind 73 = .ok (.invokevirtual 32, 3) := dq daX2_isOfKind_0 (i := 29) rfl
theorem dX2_isOfKind_76 : decode cX2_isOfKind 76 = .ok (.ifCond .ne 7, 3) := dq daX2_isOfKind_0 (i := 30) rfl
theorem dX2_isOfKind_79 : decode cX2_isOfKind 79 = .ok (.iconst 1, 1) := dq daX2_isOfKind_0 (i := 31) rfl
theorem dX2_isOfKind_80 : decode cX2_isOfKind 80 = .ok (.goto 4, 3) := dq daX2_isOfKind_0 (i := 32) rfl
theorem dX2_isOfKind_83 : decode cX2_isOfKind 83 = .ok (.iconst 0, 1) := dq daX2_isOfKind_0 (i := 33) rfl
theorem dX2_isOfKind_84 : decode cX2_isOfKind 84 = .ok (.ireturn, 1) := dq daX2_isOfKind_0 (i := 34) rfl
theorem dX2_isOfKind_85 : decode cX2_isOfKind 85 = .ok (.iconst 0, 1) := dq daX2_isOfKind_0 (i := 35) rfl
theorem dX2_isOfKind_86 : decode cX2_isOfKind 86 = .ok (.ireturn, 1) := dq daX2_isOfKind_0 (i := 36) rfl
theorem daX2_takenFor_0 : dchk cX2_takenFor [(0, .iload_n 1, 1), (1, .lookupswitch 47 #[(0, 27), (1, 39)], 27), (28, .aload_n 0, 1), (29, .getfield 19, 3), (32, .ldc2_w 36, 3), (35, .invokestatic 38, 3), (38, .l2i, 1), (39, .ireturn, 1), (40, .aload_n 0, 1), (41, .getfield 23, 3), (44, .invokestatic 44, 3), (47, .ireturn, 1), (48, .aload_n 0, 1), (49, .getfield 26, 3), (52, .ireturn, 1)] = true := by decide +kernel
theorem dX2_takenFor_0 : decode cX2_takenFor 0 = .ok (.iload_n 1, 1) := dq daX2_takenFor_0 (i := 0) rfl
theorem dX2_takenFor_1 : decode cX2_takenFor 1 = .ok (.lookupswitch 47 #[(0, 27), (1, 39)], 27) := dq daX2_takenFor_0 (i := 1) rfl
theorem dX2_takenFor_28 : decode cX2_takenFor 28 = .ok (.aload_n 0, 1) := dq daX2_takenFor_0 (i := 2) rfl
theorem dX2_takenFor_29 : decode cX2_takenFor 29 = .ok (.getfield 19, 3) := dq daX2_takenFor_0 (i := 3) rfl
theorem dX2_takenFor_32 : decode cX2_takenFor 32 = .ok (.ldc2_w 36, 3) := dq daX2_takenFor_0 (i := 4) rfl
theorem dX2_takenFor_35 : decode cX2_takenFor 35 = .ok (.invokestatic 38, 3) := dq daX2_takenFor_0 (i := 5) rfl
theorem dX2_takenFor_38 : decode cX2_takenFor 38 = .ok (.l2i, 1) := dq daX2_takenFor_0 (i := 6) rfl
theorem dX2_takenFor_39 : decode cX2_takenFor 39 = .ok (.ireturn, 1) := dq daX2_takenFor_0 (i := 7) rfl
theorem dX2_takenFor_40 : decode cX2_takenFor 40 = .ok (.aload_n 0, 1) := dq daX2_takenFor_0 (i := 8) rfl
theorem dX2_takenFor_41 : decode cX2_takenFor 41 = .ok (.getfield 23, 3) := dq daX2_takenFor_0 (i := 9) rfl
theorem dX2_takenFor_44 : decode cX2_takenFor 44 = .ok (.invokestatic 44, 3) := dq daX2_takenFor_0 (i := 10) rfl
theorem dX2_takenFor_47 : decode cX2_takenFor 47 = .ok (.ireturn, 1) := dq daX2_takenFor_0 (i := 11) rfl
theorem dX2_takenFor_48 : decode cX2_takenFor 48 = .ok (.aload_n 0, 1) := dq daX2_takenFor_0 (i := 12) rfl
theorem dX2_takenFor_49 : decode cX2_takenFor 49 = .ok (.getfield 26, 3) := dq daX2_takenFor_0 (i := 13) rfl
theorem dX2_takenFor_52 : decode cX2_takenFor 52 = .ok (.ireturn, 1) := dq daX2_takenFor_0 (i := 14) rfl
theorem daX2_firstUnlike_0 : dchk cX2_firstUnlike [(0, .lload_n 1, 1), (1, .invokestatic 44, 3), (4, .istore_n 3, 1), (5, .aload_n 0, 1), (6, .getfield 29, 3), (9, .iload_n 3, 1), (10, .invokestatic 50, 3), (13, .istore 4, 2), (15, .iconst 0, 1), (16, .istore 5, 2), (18, .iload 5, 2), (20, .iload 4, 2), (22, .if_icmp .ge 43, 3), (25, .iload 5, 2), (27, .iload_n 3, 1), (28, .if_icmp .ge 28, 3), (31, .aload_n 0, 1), (32, .iload 5, 2), (34, .invokevirtual 54, 3), (37, .ifCond .eq 19, 3), (40, .aload_n 0, 1), (41, .getfield 11, 3), (44, .iload 5, 2), (46, .iaload, 1), (47, .lload_n 1, 1), (48, .iload 5, 2), (50, .invokestatic 58, 3), (53, .if_icmp .eq 6, 3), (56, .iload 5, 2), (58, .ireturn, 1), (59, .iinc 5 1, 3), (62, .goto (-44), 3), (65, .iconst (-1), 1), (66, .ireturn, 1)] = true := by decide +kernel
theorem dX2_firstUnlike_0 : decode cX2_firstUnlike 0 = .ok (.lload_n 1, 1) := dq daX2_firstUnlike_0 (i := 0) rfl
theorem dX2_firstUnlike_1 : decode cX2_firstUnlike 1 = .ok (.invokestatic 44, 3) := dq daX2_firstUnlike_0 (i := 1) rfl
theorem dX2_firstUnlike_4 : decode cX2_firstUnlike 4 = .ok (.istore_n 3, 1) := dq daX2_firstUnlike_0 (i := 2) rfl
theorem dX2_firstUnlike_5 : decode cX2_firstUnlike 5 = .ok (.aload_n 0, 1) := dq daX2_firstUnlike_0 (i := 3) rfl
theorem dX2_firstUnlike_6 : decode cX2_firstUnlike 6 = .ok (.getfield 29, 3) := dq daX2_firstUnlike_0 (i := 4) rfl
theorem dX2_firstUnlike_9 : decode cX2_firstUnlike 9 = .ok (.iload_n 3, 1) := dq daX2_firstUnlike_0 (i := 5) rfl
theorem dX2_firstUnlike_10 : decode cX2_firstUnlike 10 = .ok (.invokestatic 50, 3) := dq daX2_firstUnlike_0 (i := 6) rfl
theorem dX2_firstUnlike_13 : decode cX2_firstUnlike 13 = .ok (.istore 4, 2) := dq daX2_firstUnlike_0 (i := 7) rfl
theorem dX2_firstUnlike_15 : decode cX2_firstUnlike 15 = .ok (.iconst 0, 1) := dq daX2_firstUnlike_0 (i := 8) rfl
theorem dX2_firstUnlike_16 : decode cX2_firstUnlike 16 = .ok (.istore 5, 2) := dq daX2_firstUnlike_0 (i := 9) rfl
theorem dX2_firstUnlike_18 : decode cX2_firstUnlike 18 = .ok (.iload 5, 2) := dq daX2_firstUnlike_0 (i := 10) rfl
theorem dX2_firstUnlike_20 : decode cX2_firstUnlike 20 = .ok (.iload 4, 2) := dq daX2_firstUnlike_0 (i := 11) rfl
theorem dX2_firstUnlike_22 : decode cX2_firstUnlike 22 = .ok (.if_icmp .ge 43, 3) := dq daX2_firstUnlike_0 (i := 12) rfl
theorem dX2_firstUnlike_25 : decode cX2_firstUnlike 25 = .ok (.iload 5, 2) := dq daX2_firstUnlike_0 (i := 13) rfl
theorem dX2_firstUnlike_27 : decode cX2_firstUnlike 27 = .ok (.iload_n 3, 1) := dq daX2_firstUnlike_0 (i := 14) rfl
theorem dX2_firstUnlike_28 : decode cX2_firstUnlike 28 = .ok (.if_icmp .ge 28, 3) := dq daX2_firstUnlike_0 (i := 15) rfl
theorem dX2_firstUnlike_31 : decode cX2_firstUnlike 31 = .ok (.aload_n 0, 1) := dq daX2_firstUnlike_0 (i := 16) rfl
theorem dX2_firstUnlike_32 : decode cX2_firstUnlike 32 = .ok (.iload 5, 2) := dq daX2_firstUnlike_0 (i := 17) rfl
theorem dX2_firstUnlike_34 : decode cX2_firstUnlike 34 = .ok (.invokevirtual 54, 3) := dq daX2_firstUnlike_0 (i := 18) rfl
theorem dX2_firstUnlike_37 : decode cX2_firstUnlike 37 = .ok (.ifCond .eq 19, 3) := dq daX2_firstUnlike_0 (i := 19) rfl
theorem dX2_firstUnlike_40 : decode cX2_firstUnlike 40 = .ok (.aload_n 0, 1) := dq daX2_firstUnlike_0 (i := 20) rfl
theorem dX2_firstUnlike_41 : decode cX2_firstUnlike 41 = .ok (.getfield 11, 3) := dq daX2_firstUnlike_0 (i := 21) rfl
theorem dX2_firstUnlike_44 : decode cX2_firstUnlike 44 = .ok (.iload 5, 2) := dq daX2_firstUnlike_0 (i := 22) rfl
theorem dX2_firstUnlike_46 : decode cX2_firstUnlike 46 = .ok (.iaload, 1) := dq daX2_firstUnlike_0 (i := 23) rfl
theorem dX2_firstUnlike_47 : decode cX2_firstUnlike 47 = .ok (.lload_n 1, 1) := dq daX2_firstUnlike_0 (i := 24) rfl
theorem dX2_firstUnlike_48 : decode cX2_firstUnlike 48 = .ok (.iload 5, 2) := dq daX2_firstUnlike_0 (i := 25) rfl
theorem dX2_firstUnlike_50 : decode cX2_firstUnlike 50 = .ok (.invokestatic 58, 3) := dq daX2_firstUnlike_0 (i := 26) rfl
theorem dX2_firstUnlike_53 : decode cX2_firstUnlike 53 = .ok (.if_icmp .eq 6, 3) := dq daX2_firstUnlike_0 (i := 27) rfl
theorem dX2_firstUnlike_56 : decode cX2_firstUnlike 56 = .ok (.iload 5, 2) := dq daX2_firstUnlike_0 (i := 28) rfl
theorem dX2_firstUnlike_58 : decode cX2_firstUnlike 58 = .ok (.ireturn, 1) := dq daX2_firstUnlike_0 (i := 29) rfl
theorem dX2_firstUnlike_59 : decode cX2_firstUnlike 59 = .ok (.iinc 5 1, 3) := dq daX2_firstUnlike_0 (i := 30) rfl
theorem dX2_firstUnlike_62 : decode cX2_firstUnlike 62 = .ok (.goto (-44), 3) := dq daX2_firstUnlike_0 (i := 31) rfl
theorem dX2_firstUnlike_65 : decode cX2_firstUnlike 65 = .ok (.iconst (-1), 1) := dq daX2_firstUnlike_0 (i := 32) rfl
theorem dX2_firstUnlike_66 : decode cX2_firstUnlike 66 = .ok (.ireturn, 1) := dq daX2_firstUnlike_0 (i := 33) rfl
theorem daX2_isFullTree_0 : dchk cX2_isFullTree [(0, .aload_n 0, 1), (1, .getfield 23, 3), (4, .invokestatic 44, 3), (7, .aload_n 0, 1), (8, .getfield 26, 3), (11, .iconst 3, 1), (12, .isub, 1), (13, .if_icmp .ne 7, 3), (16, .iconst 1, 1), (17, .goto 4, 3), (20, .iconst 0, 1), (21, .ireturn, 1)] = true := by decide +kernel
theorem dX2_isFullTree_0 : decode cX2_isFullTree 0 = .ok (.aload_n 0, 1) := dq daX2_isFullTree_0 (i := 0) rfl
theorem dX2_isFullTree_1 : decode cX2_isFullTree 1 = .ok (.getfield 23, 3) := dq daX2_isFullTree_0 (i := 1) rfl
theorem dX2_isFullTree_4 : decode cX2_isFullTree 4 = .ok (.invokestatic 44, 3) := dq daX2_isFullTree_0 (i := 2) rfl
theorem dX2_isFullTree_7 : decode cX2_isFullTree 7 = .ok (.aload_n 0, 1) := dq daX2_isFullTree_0 (i := 3) rfl
theorem dX2_isFullTree_8 : decode cX2_isFullTree 8 = .ok (.getfield 26, 3) := dq daX2_isFullTree_0 (i := 4) rfl
theorem dX2_isFullTree_11 : decode cX2_isFullTree 11 = .ok (.iconst 3, 1) := dq daX2_isFullTree_0 (i := 5) rfl
theorem dX2_isFullTree_12 : decode cX2_isFullTree 12 = .ok (.isub, 1) := dq daX2_isFullTree_0 (i := 6) rfl
theorem dX2_isFullTree_13 : decode cX2_isFullTree 13 = .ok (.if_icmp .ne 7, 3) := dq daX2_isFullTree_0 (i := 7) rfl
theorem dX2_isFullTree_16 : decode cX2_isFullTree 16 = .ok (.iconst 1, 1) := dq daX2_isFullTree_0 (i := 8) rfl
theorem dX2_isFullTree_17 : decode cX2_isFullTree 17 = .ok (.goto 4, 3) := dq daX2_isFullTree_0 (i := 9) rfl
theorem dX2_isFullTree_20 : decode cX2_isFullTree 20 = .ok (.iconst 0, 1) := dq daX2_isFullTree_0 (i := 10) rfl
theorem dX2_isFullTree_21 : decode cX2_isFullTree 21 = .ok (.ireturn, 1) := dq daX2_isFullTree_0 (i := 11) rfl
theorem daX3_init_0 : dchk cX3_init [(0, .aload_n 0, 1), (1, .invokespecial 5, 3), (4, .aload_n 0, 1), (5, .sipush 1024, 3), (8, .newarray .long, 2), (10, .putfield 11, 3), (13, .aload_n 0, 1), (14, .sipush 1024, 3), (17, .newarray .long, 2), (19, .putfield 15, 3), (22, .aload_n 0, 1), (23, .sipush 1024, 3), (26, .newarray .int, 2), (28, .putfield 18, 3), (31, .return_, 1)] = true := by decide +kernel
theorem dX3_init_0 : decode cX3_init 0 = .ok (.aload_n 0, 1) := dq daX3_init_0 (i := 0) rfl
theorem dX3_init_1 : decode cX3_init 1 = .ok (.invokespecial 5, 3) := dq daX3_init_0 (i := 1) rfl
theorem dX3_init_4 : decode cX3_init 4 = .ok (.aload_n 0, 1) := dq daX3_init_0 (i := 2) rfl
theorem dX3_init_5 : decode cX3_init 5 = .ok (.sipush 1024, 3) := dq daX3_init_0 (i := 3) rfl
theorem dX3_init_8 : decode cX3_init 8 = .ok (.newarray .long, 2) := dq daX3_init_0 (i := 4) rfl
theorem dX3_init_10 : decode cX3_init 10 = .ok (.putfield 11, 3) := dq daX3_init_0 (i := 5) rfl
theorem dX3_init_13 : decode cX3_init 13 = .ok (.aload_n 0, 1) := dq daX3_init_0 (i := 6) rfl
theorem dX3_init_14 : decode cX3_init 14 = .ok (.sipush 1024, 3) := dq daX3_init_0 (i := 7) rfl
theorem dX3_init_17 : decode cX3_init 17 = .ok (.newarray .long, 2) := dq daX3_init_0 (i := 8) rfl
theorem dX3_init_19 : decode cX3_init 19 = .ok (.putfield 15, 3) := dq daX3_init_0 (i := 9) rfl
theorem dX3_init_22 : decode cX3_init 22 = .ok (.aload_n 0, 1) := dq daX3_init_0 (i := 10) rfl
theorem dX3_init_23 : decode cX3_init 23 = .ok (.sipush 1024, 3) := dq daX3_init_0 (i := 11) rfl
theorem dX3_init_26 : decode cX3_init 26 = .ok (.newarray .int, 2) := dq daX3_init_0 (i := 12) rfl
theorem dX3_init_28 : decode cX3_init 28 = .ok (.putfield 18, 3) := dq daX3_init_0 (i := 13) rfl
theorem dX3_init_31 : decode cX3_init 31 = .ok (.return_, 1) := dq daX3_init_0 (i := 14) rfl
theorem daX3_lineOf_0 : dchk cX3_lineOf [(0, .iload_n 0, 1), (1, .ifCond .ne 5, 3), (4, .lconst 1, 1), (5, .lreturn, 1), (6, .iload_n 0, 1), (7, .iconst 1, 1), (8, .if_icmp .ne 9, 3), (11, .ldc2_w 22, 3), (14, .goto 6, 3), (17, .ldc2_w 24, 3), (20, .lreturn, 1)] = true := by decide +kernel
theorem dX3_lineOf_0 : decode cX3_lineOf 0 = .ok (.iload_n 0, 1) := dq daX3_lineOf_0 (i := 0) rfl
theorem dX3_lineOf_1 : decode cX3_lineOf 1 = .ok (.ifCond .ne 5, 3) := dq daX3_lineOf_0 (i := 1) rfl
theorem dX3_lineOf_4 : decode cX3_lineOf 4 = .ok (.lconst 1, 1) := dq daX3_lineOf_0 (i := 2) rfl
theorem dX3_lineOf_5 : decode cX3_lineOf 5 = .ok (.lreturn, 1) := dq daX3_lineOf_0 (i := 3) rfl
theorem dX3_lineOf_6 : decode cX3_lineOf 6 = .ok (.iload_n 0, 1) := dq daX3_lineOf_0 (i := 4) rfl
theorem dX3_lineOf_7 : decode cX3_lineOf 7 = .ok (.iconst 1, 1) := dq daX3_lineOf_0 (i := 5) rfl
theorem dX3_lineOf_8 : decode cX3_lineOf 8 = .ok (.if_icmp .ne 9, 3) := dq daX3_lineOf_0 (i := 6) rfl
theorem dX3_lineOf_11 : decode cX3_lineOf 11 = .ok (.ldc2_w 22, 3) := dq daX3_lineOf_0 (i := 7) rfl
theorem dX3_lineOf_14 : decode cX3_lineOf 14 = .ok (.goto 6, 3) := dq daX3_lineOf_0 (i := 8) rfl
theorem dX3_lineOf_17 : decode cX3_lineOf 17 = .ok (.ldc2_w 24, 3) := dq daX3_lineOf_0 (i := 9) rfl
theorem dX3_lineOf_20 : decode cX3_lineOf 20 = .ok (.lreturn, 1) := dq daX3_lineOf_0 (i := 10) rfl
theorem daX3_begin_0 : dchk cX3_begin [(0, .aload_n 0, 1), (1, .iconst 0, 1), (2, .putfield 26, 3), (5, .aload_n 0, 1), (6, .iconst 0, 1), (7, .putfield 30, 3), (10, .aload_n 0, 1), (11, .lconst 0, 1), (12, .putfield 33, 3), (15, .return_, 1)] = true := by decide +kernel
theorem dX3_begin_0 : decode cX3_begin 0 = .ok (.aload_n 0, 1) := dq daX3_begin_0 (i := 0) rfl
theorem dX3_begin_1 : decode cX3_begin 1 = .ok (.iconst 0, 1) := dq daX3_begin_0 (i := 1) rfl
theorem dX3_begin_2 : decode cX3_begin 2 = .ok (.putfield 26, 3) := dq daX3_begin_0 (i := 2) rfl
theorem dX3_begin_5 : decode cX3_begin 5 = .ok (.aload_n 0, 1) := dq daX3_begin_0 (i := 3) rfl
theorem dX3_begin_6 : decode cX3_begin 6 = .ok (.iconst 0, 1) := dq daX3_begin_0 (i := 4) rfl
theorem dX3_begin_7 : decode cX3_begin 7 = .ok (.putfield 30, 3) := dq daX3_begin_0 (i := 5) rfl
theorem dX3_begin_10 : decode cX3_begin 10 = .ok (.aload_n 0, 1) := dq daX3_begin_0 (i := 6) rfl
theorem dX3_begin_11 : decode cX3_begin 11 = .ok (.lconst 0, 1) := dq daX3_begin_0 (i := 7) rfl
theorem dX3_begin_12 : decode cX3_begin 12 = .ok (.putfield 33, 3) := dq daX3_begin_0 (i := 8) rfl
theorem dX3_begin_15 : decode cX3_begin 15 = .ok (.return_, 1) := dq daX3_begin_0 (i := 9) rfl
theorem daX3_add_0 : dchk cX3_add [(0, .aload_n 0, 1), (1, .dup, 1), (2, .getfield 26, 3), (5, .iconst 1, 1), (6, .iadd, 1), (7, .putfield 26, 3), (10, .aload_n 0, 1), (11, .dup, 1), (12, .getfield 30, 3), (15, .iload_n 1, 1), (16, .iadd, 1), (17, .putfield 30, 3), (20, .iload_n 1, 1), (21, .ifCond .lt 23, 3), (24, .iload_n 1, 1), (25, .bipush 14, 2), (27, .if_icmp .gt 17, 3), (30, .aload_n 0, 1), (31, .dup, 1), (32, .getfield 33, 3), (35, .lconst 1, 1), (36, .iconst 4, 1), (37, .iload_n 1, 1), (38, .imul, 1), (39, .lshl, 1), (40, .ladd, 1), (41, .putfield 33, 3), (44, .return_, 1)] = true := by decide +kernel
theorem dX3_add_0 : decode cX3_add 0 = .ok (.aload_n 0, 1) := dq daX3_add_0 (i := 0) rfl
theorem dX3_add_1 : decode cX3_add 1 = .ok (.dup, 1) := dq daX3_add_0 (i := 1) rfl
theorem dX3_add_2 : decode cX3_add 2 = .ok (.getfield 26, 3) := dq daX3_add_0 (i := 2) rfl
theorem dX3_add_5 : decode cX3_add 5 = .ok (.iconst 1, 1) := dq daX3_add_0 (i := 3) rfl
theorem dX3_add_6 : decode cX3_add 6 = .ok (.iadd, 1) := dq daX3_add_0 (i := 4) rfl
theorem dX3_add_7 : decode cX3_add 7 = .ok (.putfield 26, 3) := dq daX3_add_0 (i := 5) rfl
theorem dX3_add_10 : decode cX3_add 10 = .ok (.aload_n 0, 1) := dq daX3_add_0 (i := 6) rfl
theorem dX3_add_11 : decode cX3_add 11 = .ok (.dup, 1) := dq daX3_add_0 (i := 7) rfl
theorem dX3_add_12 : decode cX3_add 12 = .ok (.getfield 30, 3) := dq daX3_add_0 (i := 8) rfl
theorem dX3_add_15 : decode cX3_add 15 = .ok (.iload_n 1, 1) := dq daX3_add_0 (i := 9) rfl
theorem dX3_add_16 : decode cX3_add 16 = .ok (.iadd, 1) := dq daX3_add_0 (i := 10) rfl
theorem dX3_add_17 : decode cX3_add 17 = .ok (.putfield 30, 3) := dq daX3_add_0 (i := 11) rfl
theorem dX3_add_20 : decode cX3_add 20 = .ok (.iload_n 1, 1) := dq daX3_add_0 (i := 12) rfl
theorem dX3_add_21 : decode cX3_add 21 = .ok (.ifCond .lt 23, 3) := dq daX3_add_0 (i := 13) rfl
theorem dX3_add_24 : decode cX3_add 24 = .ok (.iload_n 1, 1) := dq daX3_add_0 (i := 14) rfl
theorem dX3_add_25 : decode cX3_add 25 = .ok (.bipush 14, 2) := dq daX3_add_0 (i := 15) rfl
theorem dX3_add_27 : decode cX3_add 27 = .ok (.if_icmp .gt 17, 3) := dq daX3_add_0 (i := 16) rfl
theorem dX3_add_30 : decode cX3_add 30 = .ok (.aload_n 0, 1) := dq daX3_add_0 (i := 17) rfl
theorem dX3_add_31 : decode cX3_add 31 = .ok (.dup, 1) := dq daX3_add_0 (i := 18) rfl
theorem dX3_add_32 : decode cX3_add 32 = .ok (.getfield 33, 3) := dq daX3_add_0 (i := 19) rfl
theorem dX3_add_35 : decode cX3_add 35 = .ok (.lconst 1, 1) := dq daX3_add_0 (i := 20) rfl
theorem dX3_add_36 : decode cX3_add 36 = .ok (.iconst 4, 1) := dq daX3_add_0 (i := 21) rfl
theorem dX3_add_37 : decode cX3_add 37 = .ok (.iload_n 1, 1) := dq daX3_add_0 (i := 22) rfl
theorem dX3_add_38 : decode cX3_add 38 = .ok (.imul, 1) := dq daX3_add_0 (i := 23) rfl
theorem dX3_add_39 : decode cX3_add 39 = .ok (.lshl, 1) := dq daX3_add_0 (i := 24) rfl
theorem dX3_add_40 : decode cX3_add 40 = .ok (.ladd, 1) := dq daX3_add_0 (i := 25) rfl
theorem dX3_add_41 : decode cX3_add 41 = .ok (.putfield 33, 3) := dq daX3_add_0 (i := 26) rfl
theorem dX3_add_44 : decode cX3_add 44 = .ok (.return_, 1) := dq daX3_add_0 (i := 27) rfl
theorem daX3_keyFor_0 : dchk cX3_keyFor [(0, .iconst 2, 1), (1, .iload_n 1, 1), (2, .imul, 1), (3, .iconst 2, 1), (4, .isub, 1), (5, .aload_n 0, 1), (6, .getfield 26, 3), (9, .iadd, 1), (10, .ifCond .le 20, 3), (13, .aload_n 0, 1), (14, .getfield 30, 3), (17, .iconst 3, 1), (18, .iload_n 1, 1), (19, .imul, 1), (20, .iconst 3, 1), (21, .isub, 1), (22, .aload_n 0, 1), (23, .getfield 26, 3), (26, .iadd, 1), (27, .if_icmp .eq 5, 3), (30, .lconst 0, 1), (31, .lreturn, 1), (32, .iload_n 1, 1), (33, .i2l, 1), (34, .bipush 60, 2), (36, .lshl, 1), (37, .aload_n 0, 1), (38, .getfield 33, 3), (41, .ladd, 1), (42, .lreturn, 1)] = true := by decide +kernel
theorem dX3_keyFor_0 : decode cX3_keyFor 0 = .ok (.iconst 2, 1) := dq daX3_keyFor_0 (i := 0) rfl
theorem dX3_keyFor_1 : decode cX3_keyFor 1 = .ok (.iload_n 1, 1) := dq daX3_keyFor_0 (i := 1) rfl
theorem dX3_keyFor_2 : decode cX3_keyFor 2 = .ok (.imul, 1) := dq daX3_keyFor_0 (i := 2) rfl
theorem dX3_keyFor_3 : decode cX3_keyFor 3 = .ok (.iconst 2, 1) := dq daX3_keyFor_0 (i := 3) rfl
theorem dX3_keyFor_4 : decode cX3_keyFor 4 = .ok (.isub, 1) := dq daX3_keyFor_0 (i := 4) rfl
theorem dX3_keyFor_5 : decode cX3_keyFor 5 = .ok (.aload_n 0, 1) := dq daX3_keyFor_0 (i := 5) rfl
theorem dX3_keyFor_6 : decode cX3_keyFor 6 = .ok (.getfield 26, 3) := dq daX3_keyFor_0 (i := 6) rfl
theorem dX3_keyFor_9 : decode cX3_keyFor 9 = .ok (.iadd, 1) := dq daX3_keyFor_0 (i := 7) rfl
theorem dX3_keyFor_10 : decode cX3_keyFor 10 = .ok (.ifCond .le 20, 3) := dq daX3_keyFor_0 (i := 8) rfl
theorem dX3_keyFor_13 : decode cX3_keyFor 13 = .ok (.aload_n 0, 1) := dq daX3_keyFor_0 (i := 9) rfl
theorem dX3_keyFor_14 : decode cX3_keyFor 14 = .ok (.getfield 30, 3) := dq daX3_keyFor_0 (i := 10) rfl
theorem dX3_keyFor_17 : decode cX3_keyFor 17 = .ok (.iconst 3, 1) := dq daX3_keyFor_0 (i := 11) rfl
theorem dX3_keyFor_18 : decode cX3_keyFor 18 = .ok (.iload_n 1, 1) := dq daX3_keyFor_0 (i := 12) rfl
theorem dX3_keyFor_19 : decode cX3_keyFor 19 = .ok (.imul, 1) := dq daX3_keyFor_0 (i := 13) rfl
theorem dX3_keyFor_20 : decode cX3_keyFor 20 = .ok (.iconst 3, 1) := dq daX3_keyFor_0 (i := 14) rfl
theorem dX3_keyFor_21 : decode cX3_keyFor 21 = .ok (.isub, 1) := dq daX3_keyFor_0 (i := 15) rfl
theorem dX3_keyFor_22 : decode cX3_keyFor 22 = .ok (.aload_n 0, 1) := dq daX3_keyFor_0 (i := 16) rfl
theorem dX3_keyFor_23 : decode cX3_keyFor 23 = .ok (.getfield 26, 3) := dq daX3_keyFor_0 (i := 17) rfl
theorem dX3_keyFor_26 : decode cX3_keyFor 26 = .ok (.iadd, 1) := dq daX3_keyFor_0 (i := 18) rfl
theorem dX3_keyFor_27 : decode cX3_keyFor 27 = .ok (.if_icmp .eq 5, 3) := dq daX3_keyFor_0 (i := 19) rfl
theorem dX3_keyFor_30 : decode cX3_keyFor 30 = .ok (.lconst 0, 1) := dq daX3_keyFor_0 (i := 20) rfl
theorem dX3_keyFor_31 : decode cX3_keyFor 31 = .ok (.lreturn, 1) := dq daX3_keyFor_0 (i := 21) rfl
theorem dX3_keyFor_32 : decode cX3_keyFor 32 = .ok (.iload_n 1, 1) := dq daX3_keyFor_0 (i := 22) rfl
theorem dX3_keyFor_33 : decode cX3_keyFor 33 = .ok (.i2l, 1) := dq daX3_keyFor_0 (i := 23) rfl
theorem dX3_keyFor_34 : decode cX3_keyFor 34 = .ok (.bipush 60, 2) := dq daX3_keyFor_0 (i := 24) rfl
theorem dX3_keyFor_36 : decode cX3_keyFor 36 = .ok (.lshl, 1) := dq daX3_keyFor_0 (i := 25) rfl
theorem dX3_keyFor_37 : decode cX3_keyFor 37 = .ok (.aload_n 0, 1) := dq daX3_keyFor_0 (i := 26) rfl
theorem dX3_keyFor_38 : decode cX3_keyFor 38 = .ok (.getfield 33, 3) := dq daX3_keyFor_0 (i := 27) rfl
theorem dX3_keyFor_41 : decode cX3_keyFor 41 = .ok (.ladd, 1) := dq daX3_keyFor_0 (i := 28) rfl
theorem dX3_keyFor_42 : decode cX3_keyFor 42 = .ok (.lreturn, 1) := dq daX3_keyFor_0 (i := 29) rfl
theorem daX3_ruleOf_0 : dchk cX3_ruleOf [(0, .lload_n 0, 1), (1, .lconst 0, 1), (2, .lcmp, 1), (3, .ifCond .ne 5, 3), (6, .iconst 0, 1), (7, .ireturn, 1), (8, .lload_n 0, 1), (9, .invokestatic 37, 3), (12, .lconst 0, 1), (13, .lcmp, 1), (14, .ifCond .eq 5, 3), (17, .iconst 1, 1), (18, .ireturn, 1), (19, .lload_n 0, 1), (20, .iconst 0, 1), (21, .invokestatic 41, 3), (24, .ifCond .le 7, 3), (27, .iconst 2, 1), (28, .goto 4, 3), (31, .iconst 3, 1), (32, .ireturn, 1)] = true := by decide +kernel
theorem dX3_ruleOf_0 : decode cX3_ruleOf 0 = .ok (.lload_n 0, 1) := dq daX3_ruleOf_0 (i := 0) rfl
theorem dX3_ruleOf_1 : decode cX3_ruleOf 1 = .ok (.lconst 0, 1) := dq daX3_ruleOf_0 (i := 1) rfl
theorem dX3_ruleOf_2 : decode cX3_ruleOf 2 = .ok (.lcmp, 1) := dq daX3_ruleOf_0 (i := 2) rfl
theorem dX3_ruleOf_3 : decode cX3_ruleOf 3 = .ok (.ifCond .ne 5, 3) := dq daX3_ruleOf_0 (i := 3) rfl
theorem dX3_ruleOf_6 : decode cX3_ruleOf 6 = .ok (.iconst 0, 1) := dq daX3_ruleOf_0 (i := 4) rfl
theorem dX3_ruleOf_7 : decode cX3_ruleOf 7 = .ok (.ireturn, 1) := dq daX3_ruleOf_0 (i := 5) rfl
theorem dX3_ruleOf_8 : decode cX3_ruleOf 8 = .ok (.lload_n 0, 1) := dq daX3_ruleOf_0 (i := 6) rfl
theorem dX3_ruleOf_9 : decode cX3_ruleOf 9 = .ok (.invokestatic 37, 3) := dq daX3_ruleOf_0 (i := 7) rfl
theorem dX3_ruleOf_12 : decode cX3_ruleOf 12 = .ok (.lconst 0, 1) := dq daX3_ruleOf_0 (i := 8) rfl
theorem dX3_ruleOf_13 : decode cX3_ruleOf 13 = .ok (.lcmp, 1) := dq daX3_ruleOf_0 (i := 9) rfl
theorem dX3_ruleOf_14 : decode cX3_ruleOf 14 = .ok (.ifCond .eq 5, 3) := dq daX3_ruleOf_0 (i := 10) rfl
theorem dX3_ruleOf_17 : decode cX3_ruleOf 17 = .ok (.iconst 1, 1) := dq daX3_ruleOf_0 (i := 11) rfl
theorem dX3_ruleOf_18 : decode cX3_ruleOf 18 = .ok (.ireturn, 1) := dq daX3_ruleOf_0 (i := 12) rfl
theorem dX3_ruleOf_19 : decode cX3_ruleOf 19 = .ok (.lload_n 0, 1) := dq daX3_ruleOf_0 (i := 13) rfl
theorem dX3_ruleOf_20 : decode cX3_ruleOf 20 = .ok (.iconst 0, 1) := dq daX3_ruleOf_0 (i := 14) rfl
theorem dX3_ruleOf_21 : decode cX3_ruleOf 21 = .ok (.invokestatic 41, 3) := dq daX3_ruleOf_0 (i := 15) rfl
theorem dX3_ruleOf_24 : decode cX3_ruleOf 24 = .ok (.ifCond .le 7, 3) := dq daX3_ruleOf_0 (i := 16) rfl
theorem dX3_ruleOf_27 : decode cX3_ruleOf 27 = .ok (.iconst 2, 1) := dq daX3_ruleOf_0 (i := 17) rfl
theorem dX3_ruleOf_28 : decode cX3_ruleOf 28 = .ok (.goto 4, 3) := dq daX3_ruleOf_0 (i := 18) rfl
theorem dX3_ruleOf_31 : decode cX3_ruleOf 31 = .ok (.iconst 3, 1) := dq daX3_ruleOf_0 (i := 19) rfl
theorem dX3_ruleOf_32 : decode cX3_ruleOf 32 = .ok (.ireturn, 1) := dq daX3_ruleOf_0 (i := 20) rfl
theorem daX3_baseOf_0 : dchk cX3_baseOf [(0, .lload_n 0, 1), (1, .ldc2_w 45, 3), (4, .lcmp, 1), (5, .ifCond .eq 11, 3), (8, .lload_n 0, 1), (9, .ldc2_w 47, 3), (12, .lcmp, 1), (13, .ifCond .ne 5, 3), (16, .lconst 1, 1), (17, .lreturn, 1), (18, .lload_n 0, 1), (19, .ldc2_w 49, 3), (22, .lcmp, 1), (23, .ifCond .ne 7, 3), (26, .ldc2_w 51, 3), (29, .lreturn, 1), (30, .lload_n 0, 1), (31, .ldc2_w 53, 3), (34, .lcmp, 1), (35, .ifCond .ne 7, 3), (38, .ldc2_w 55, 3), (41, .lreturn, 1), (42, .lload_n 0, 1), (43, .ldc2_w 57, 3), (46, .lcmp, 1), (47, .ifCond .ne 9, 3), (50, .ldc2_w 59, 3), (53, .goto 4, 3), (56, .lconst 0, 1), (57, .lreturn, 1)] = true := by decide +kernel
theorem dX3_baseOf_0 : decode cX3_baseOf 0 = .ok (.lload_n 0, 1) := dq daX3_baseOf_0 (i := 0) rfl
theorem dX3_baseOf_1 : decode cX3_baseOf 1 = .ok (.ldc2_w 45, 3) := dq daX3_baseOf_0 (i := 1) rfl
theorem dX3_baseOf_4 : decode cX3_baseOf 4 = .ok (.lcmp, 1) := dq daX3_baseOf_0 (i := 2) rfl
theorem dX3_baseOf_5 : decode cX3_baseOf 5 = .ok (.ifCond .eq 11, 3) := dq daX3_baseOf_0 (i := 3) rfl
theorem dX3_baseOf_8 : decode cX3_baseOf 8 = .ok (.lload_n 0, 1) := dq daX3_baseOf_0 (i := 4) rfl
theorem dX3_baseOf_9 : decode cX3_baseOf 9 = .ok (.ldc2_w 47, 3) := dq daX3_baseOf_0 (i := 5) rfl
theorem dX3_baseOf_12 : decode cX3_baseOf 12 = .ok (.lcmp, 1) := dq daX3_baseOf_0 (i := 6) rfl
theorem dX3_baseOf_13 : decode cX3_baseOf 13 = .ok (.ifCond .ne 5, 3) := dq daX3_baseOf_0 (i := 7) rfl
theorem dX3_baseOf_16 : decode cX3_baseOf 16 = .ok (.lconst 1, 1) := dq daX3_baseOf_0 (i := 8) rfl
theorem dX3_baseOf_17 : decode cX3_baseOf 17 = .ok (.lreturn, 1) := dq daX3_baseOf_0 (i := 9) rfl
theorem dX3_baseOf_18 : decode cX3_baseOf 18 = .ok (.lload_n 0, 1) := dq daX3_baseOf_0 (i := 10) rfl
theorem dX3_baseOf_19 : decode cX3_baseOf 19 = .ok (.ldc2_w 49, 3) := dq daX3_baseOf_0 (i := 11) rfl
theorem dX3_baseOf_22 : decode cX3_baseOf 22 = .ok (.lcmp, 1) := dq daX3_baseOf_0 (i := 12) rfl
theorem dX3_baseOf_23 : decode cX3_baseOf 23 = .ok (.ifCond .ne 7, 3) := dq daX3_baseOf_0 (i := 13) rfl
theorem dX3_baseOf_26 : decode cX3_baseOf 26 = .ok (.ldc2_w 51, 3) := dq daX3_baseOf_0 (i := 14) rfl
theorem dX3_baseOf_29 : decode cX3_baseOf 29 = .ok (.lreturn, 1) := dq daX3_baseOf_0 (i := 15) rfl
theorem dX3_baseOf_30 : decode cX3_baseOf 30 = .ok (.lload_n 0, 1) := dq daX3_baseOf_0 (i := 16) rfl
theorem dX3_baseOf_31 : decode cX3_baseOf 31 = .ok (.ldc2_w 53, 3) := dq daX3_baseOf_0 (i := 17) rfl
theorem dX3_baseOf_34 : decode cX3_baseOf 34 = .ok (.lcmp, 1) := dq daX3_baseOf_0 (i := 18) rfl
theorem dX3_baseOf_35 : decode cX3_baseOf 35 = .ok (.ifCond .ne 7, 3) := dq daX3_baseOf_0 (i := 19) rfl
theorem dX3_baseOf_38 : decode cX3_baseOf 38 = .ok (.ldc2_w 55, 3) := dq daX3_baseOf_0 (i := 20) rfl
theorem dX3_baseOf_41 : decode cX3_baseOf 41 = .ok (.lreturn, 1) := dq daX3_baseOf_0 (i := 21) rfl
theorem dX3_baseOf_42 : decode cX3_baseOf 42 = .ok (.lload_n 0, 1) := dq daX3_baseOf_0 (i := 22) rfl
theorem dX3_baseOf_43 : decode cX3_baseOf 43 = .ok (.ldc2_w 57, 3) := dq daX3_baseOf_0 (i := 23) rfl
theorem dX3_baseOf_46 : decode cX3_baseOf 46 = .ok (.lcmp, 1) := dq daX3_baseOf_0 (i := 24) rfl
theorem dX3_baseOf_47 : decode cX3_baseOf 47 = .ok (.ifCond .ne 9, 3) := dq daX3_baseOf_0 (i := 25) rfl
theorem dX3_baseOf_50 : decode cX3_baseOf 50 = .ok (.ldc2_w 59, 3) := dq daX3_baseOf_0 (i := 26) rfl
theorem dX3_baseOf_53 : decode cX3_baseOf 53 = .ok (.goto 4, 3) := dq daX3_baseOf_0 (i := 27) rfl
theorem dX3_baseOf_56 : decode cX3_baseOf 56 = .ok (.lconst 0, 1) := dq daX3_baseOf_0 (i := 28) rfl
theorem dX3_baseOf_57 : decode cX3_baseOf 57 = .ok (.lreturn, 1) := dq daX3_baseOf_0 (i := 29) rfl
theorem daX3_timesThere_0 : dchk cX3_timesThere [(0, .lload_n 0, 1), (1, .iconst 4, 1), (2, .iload_n 2, 1), (3, .imul, 1), (4, .lushr, 1), (5, .ldc2_w 61, 3), (8, .land, 1), (9, .l2i, 1), (10, .ireturn, 1)] = true := by decide +kernel
theorem dX3_timesThere_0 : decode cX3_timesThere 0 = .ok (.lload_n 0, 1) := dq daX3_timesThere_0 (i := 0) rfl
theorem dX3_timesThere_1 : decode cX3_timesThere 1 = .ok (.iconst 4, 1) := dq daX3_timesThere_0 (i := 1) rfl
theorem dX3_timesThere_2 : decode cX3_timesThere 2 = .ok (.iload_n 2, 1) := dq daX3_timesThere_0 (i := 2) rfl
theorem dX3_timesThere_3 : decode cX3_timesThere 3 = .ok (.imul, 1) := dq daX3_timesThere_0 (i := 3) rfl
theorem dX3_timesThere_4 : decode cX3_timesThere 4 = .ok (.lushr, 1) := dq daX3_timesThere_0 (i := 4) rfl
theorem dX3_timesThere_5 : decode cX3_timesThere 5 = .ok (.ldc2_w 61, 3) := dq daX3_timesThere_0 (i := 5) rfl
theorem dX3_timesThere_8 : decode cX3_timesThere 8 = .ok (.land, 1) := dq daX3_timesThere_0 (i := 6) rfl
theorem dX3_timesThere_9 : decode cX3_timesThere 9 = .ok (.l2i, 1) := dq daX3_timesThere_0 (i := 7) rfl
theorem dX3_timesThere_10 : decode cX3_timesThere 10 = .ok (.ireturn, 1) := dq daX3_timesThere_0 (i := 8) rfl
theorem daX3_nextKey_0 : dchk cX3_nextKey [(0, .lconst 1, 1), (1, .iconst 4, 1), (2, .iload_n 3, 1), (3, .imul, 1), (4, .lshl, 1), (5, .lstore 4, 2), (7, .iload_n 2, 1), (8, .iconst 2, 1), (9, .if_icmp .ne 23, 3), (12, .lload_n 0, 1), (13, .iload_n 3, 1), (14, .invokestatic 41, 3), (17, .ifCond .le 15, 3), (20, .lload_n 0, 1), (21, .lconst 1, 1), (22, .lsub, 1), (23, .lload 4, 2), (25, .lsub, 1), (26, .lload 4, 2), (28, .iconst 4, 1), (29, .lushr, 1), (30, .ladd, 1), (31, .lreturn, 1), (32, .iload_n 2, 1), (33, .iconst 3, 1), (34, .if_icmp .ne 15, 3), (37, .iload_n 3, 1), (38, .iconst 1, 1), (39, .if_icmp .ne 10, 3), (42, .lload_n 0, 1), (43, .lload 4, 2), (45, .lsub, 1), (46, .goto 4, 3), (49, .lconst 0, 1), (50, .lreturn, 1)] = true := by decide +kernel
theorem dX3_nextKey_0 : decode cX3_nextKey 0 = .ok (.lconst 1, 1) := dq daX3_nextKey_0 (i := 0) rfl
theorem dX3_nextKey_1 : decode cX3_nextKey 1 = .ok (.iconst 4, 1) := dq daX3_nextKey_0 (i := 1) rfl
theorem dX3_nextKey_2 : decode cX3_nextKey 2 = .ok (.iload_n 3, 1) := dq daX3_nextKey_0 (i := 2) rfl
theorem dX3_nextKey_3 : decode cX3_nextKey 3 = .ok (.imul, 1) := dq daX3_nextKey_0 (i := 3) rfl
theorem dX3_nextKey_4 : decode cX3_nextKey 4 = .ok (.lshl, 1) := dq daX3_nextKey_0 (i := 4) rfl
theorem dX3_nextKey_5 : decode cX3_nextKey 5 = .ok (.lstore 4, 2) := dq daX3_nextKey_0 (i := 5) rfl
theorem dX3_nextKey_7 : decode cX3_nextKey 7 = .ok (.iload_n 2, 1) := dq daX3_nextKey_0 (i := 6) rfl
theorem dX3_nextKey_8 : decode cX3_nextKey 8 = .ok (.iconst 2, 1) := dq daX3_nextKey_0 (i := 7) rfl
theorem dX3_nextKey_9 : decode cX3_nextKey 9 = .ok (.if_icmp .ne 23, 3) := dq daX3_nextKey_0 (i := 8) rfl
theorem dX3_nextKey_12 : decode cX3_nextKey 12 = .ok (.lload_n 0, 1) := dq daX3_nextKey_0 (i := 9) rfl
theorem dX3_nextKey_13 : decode cX3_nextKey 13 = .ok (.iload_n 3, 1) := dq daX3_nextKey_0 (i := 10) rfl
theorem dX3_nextKey_14 : decode cX3_nextKey 14 = .ok (.invokestatic 41, 3) := dq daX3_nextKey_0 (i := 11) rfl
theorem dX3_nextKey_17 : decode cX3_nextKey 17 = .ok (.ifCond .le 15, 3) := dq daX3_nextKey_0 (i := 12) rfl
theorem dX3_nextKey_20 : decode cX3_nextKey 20 = .ok (.lload_n 0, 1) := dq daX3_nextKey_0 (i := 13) rfl
theorem dX3_nextKey_21 : decode cX3_nextKey 21 = .ok (.lconst 1, 1) := dq daX3_nextKey_0 (i := 14) rfl
theorem dX3_nextKey_22 : decode cX3_nextKey 22 = .ok (.lsub, 1) := dq daX3_nextKey_0 (i := 15) rfl
theorem dX3_nextKey_23 : decode cX3_nextKey 23 = .ok (.lload 4, 2) := dq daX3_nextKey_0 (i := 16) rfl
theorem dX3_nextKey_25 : decode cX3_nextKey 25 = .ok (.lsub, 1) := dq daX3_nextKey_0 (i := 17) rfl
theorem dX3_nextKey_26 : decode cX3_nextKey 26 = .ok (.lload 4, 2) := dq daX3_nextKey_0 (i := 18) rfl
theorem dX3_nextKey_28 : decode cX3_nextKey 28 = .ok (.iconst 4, 1) := dq daX3_nextKey_0 (i := 19) rfl
theorem dX3_nextKey_29 : decode cX3_nextKey 29 = .ok (.lushr, 1) := dq daX3_nextKey_0 (i := 20) rfl
theorem dX3_nextKey_30 : decode cX3_nextKey 30 = .ok (.ladd, 1) := dq daX3_nextKey_0 (i := 21) rfl
theorem dX3_nextKey_31 : decode cX3_nextKey 31 = .ok (.lreturn, 1) := dq daX3_nextKey_0 (i := 22) rfl
theorem dX3_nextKey_32 : decode cX3_nextKey 32 = .ok (.iload_n 2, 1) := dq daX3_nextKey_0 (i := 23) rfl
theorem dX3_nextKey_33 : decode cX3_nextKey 33 = .ok (.iconst 3, 1) := dq daX3_nextKey_0 (i := 24) rfl
theorem dX3_nextKey_34 : decode cX3_nextKey 34 = .ok (.if_icmp .ne 15, 3) := dq daX3_nextKey_0 (i := 25) rfl
theorem dX3_nextKey_37 : decode cX3_nextKey 37 = .ok (.iload_n 3, 1) := dq daX3_nextKey_0 (i := 26) rfl
theorem dX3_nextKey_38 : decode cX3_nextKey 38 = .ok (.iconst 1, 1) := dq daX3_nextKey_0 (i := 27) rfl
theorem dX3_nextKey_39 : decode cX3_nextKey 39 = .ok (.if_icmp .ne 10, 3) := dq daX3_nextKey_0 (i := 28) rfl
theorem dX3_nextKey_42 : decode cX3_nextKey 42 = .ok (.lload_n 0, 1) := dq daX3_nextKey_0 (i := 29) rfl
theorem dX3_nextKey_43 : decode cX3_nextKey 43 = .ok (.lload 4, 2) := dq daX3_nextKey_0 (i := 30) rfl
theorem dX3_nextKey_45 : decode cX3_nextKey 45 = .ok (.lsub, 1) := dq daX3_nextKey_0 (i := 31) rfl
theorem dX3_nextKey_46 : decode cX3_nextKey 46 = .ok (.goto 4, 3) := dq daX3_nextKey_0 (i := 32) rfl
theorem dX3_nextKey_49 : decode cX3_nextKey 49 = .ok (.lconst 0, 1) := dq daX3_nextKey_0 (i := 33) rfl
theorem dX3_nextKey_50 : decode cX3_nextKey 50 = .ok (.lreturn, 1) := dq daX3_nextKey_0 (i := 34) rfl
theorem daX3_weightOf_0 : dchk cX3_weightOf [(0, .iload_n 2, 1), (1, .iconst 2, 1), (2, .if_icmp .ne 10, 3), (5, .lload_n 0, 1), (6, .iload_n 3, 1), (7, .invokestatic 41, 3), (10, .i2l, 1), (11, .lreturn, 1), (12, .iconst 0, 1), (13, .istore 4, 2), (15, .iconst 0, 1), (16, .istore 5, 2), (18, .iload 5, 2), (20, .bipush 14, 2), (22, .if_icmp .gt 20, 3), (25, .iload 4, 2), (27, .lload_n 0, 1), (28, .iload 5, 2), (30, .invokestatic 41, 3), (33, .iadd, 1), (34, .istore 4, 2), (36, .iinc 5 1, 3), (39, .goto (-21), 3), (42, .ldc2_w 63, 3), (45, .lload_n 0, 1), (46, .bipush 60, 2), (48, .lushr, 1), (49, .lmul, 1), (50, .ldc2_w 63, 3), (53, .lsub, 1), (54, .iload 4, 2), (56, .i2l, 1), (57, .ladd, 1), (58, .lconst 1, 1), (59, .lsub, 1), (60, .lreturn, 1)] = true := by decide +kernel
theorem dX3_weightOf_0 : decode cX3_weightOf 0 = .ok (.iload_n 2, 1) := dq daX3_weightOf_0 (i := 0) rfl
theorem dX3_weightOf_1 : decode cX3_weightOf 1 = .ok (.iconst 2, 1) := dq daX3_weightOf_0 (i := 1) rfl
theorem dX3_weightOf_2 : decode cX3_weightOf 2 = .ok (.if_icmp .ne 10, 3) := dq daX3_weightOf_0 (i := 2) rfl
theorem dX3_weightOf_5 : decode cX3_weightOf 5 = .ok (.lload_n 0, 1) := dq daX3_weightOf_0 (i := 3) rfl
theorem dX3_weightOf_6 : decode cX3_weightOf 6 = .ok (.iload_n 3, 1) := dq daX3_weightOf_0 (i := 4) rfl
theorem dX3_weightOf_7 : decode cX3_weightOf 7 = .ok (.invokestatic 41, 3) := dq daX3_weightOf_0 (i := 5) rfl
theorem dX3_weightOf_10 : decode cX3_weightOf 10 = .ok (.i2l, 1) := dq daX3_weightOf_0 (i := 6) rfl
theorem dX3_weightOf_11 : decode cX3_weightOf 11 = .ok (.lreturn, 1) := dq daX3_weightOf_0 (i := 7) rfl
theorem dX3_weightOf_12 : decode cX3_weightOf 12 = .ok (.iconst 0, 1) := dq daX3_weightOf_0 (i := 8) rfl
theorem dX3_weightOf_13 : decode cX3_weightOf 13 = .ok (.istore 4, 2) := dq daX3_weightOf_0 (i := 9) rfl
theorem dX3_weightOf_15 : decode cX3_weightOf 15 = .ok (.iconst 0, 1) := dq daX3_weightOf_0 (i := 10) rfl
theorem dX3_weightOf_16 : decode cX3_weightOf 16 = .ok (.istore 5, 2) := dq daX3_weightOf_0 (i := 11) rfl
theorem dX3_weightOf_18 : decode cX3_weightOf 18 = .ok (.iload 5, 2) := dq daX3_weightOf_0 (i := 12) rfl
theorem dX3_weightOf_20 : decode cX3_weightOf 20 = .ok (.bipush 14, 2) := dq daX3_weightOf_0 (i := 13) rfl
theorem dX3_weightOf_22 : decode cX3_weightOf 22 = .ok (.if_icmp .gt 20, 3) := dq daX3_weightOf_0 (i := 14) rfl
theorem dX3_weightOf_25 : decode cX3_weightOf 25 = .ok (.iload 4, 2) := dq daX3_weightOf_0 (i := 15) rfl
theorem dX3_weightOf_27 : decode cX3_weightOf 27 = .ok (.lload_n 0, 1) := dq daX3_weightOf_0 (i := 16) rfl
theorem dX3_weightOf_28 : decode cX3_weightOf 28 = .ok (.iload 5, 2) := dq daX3_weightOf_0 (i := 17) rfl
theorem dX3_weightOf_30 : decode cX3_weightOf 30 = .ok (.invokestatic 41, 3) := dq daX3_weightOf_0 (i := 18) rfl
theorem dX3_weightOf_33 : decode cX3_weightOf 33 = .ok (.iadd, 1) := dq daX3_weightOf_0 (i := 19) rfl
theorem dX3_weightOf_34 : decode cX3_weightOf 34 = .ok (.istore 4, 2) := dq daX3_weightOf_0 (i := 20) rfl
theorem dX3_weightOf_36 : decode cX3_weightOf 36 = .ok (.iinc 5 1, 3) := dq daX3_weightOf_0 (i := 21) rfl
theorem dX3_weightOf_39 : decode cX3_weightOf 39 = .ok (.goto (-21), 3) := dq daX3_weightOf_0 (i := 22) rfl
theorem dX3_weightOf_42 : decode cX3_weightOf 42 = .ok (.ldc2_w 63, 3) := dq daX3_weightOf_0 (i := 23) rfl
theorem dX3_weightOf_45 : decode cX3_weightOf 45 = .ok (.lload_n 0, 1) := dq daX3_weightOf_0 (i := 24) rfl
theorem dX3_weightOf_46 : decode cX3_weightOf 46 = .ok (.bipush 60, 2) := dq daX3_weightOf_0 (i := 25) rfl
theorem dX3_weightOf_48 : decode cX3_weightOf 48 = .ok (.lushr, 1) := dq daX3_weightOf_0 (i := 26) rfl
theorem dX3_weightOf_49 : decode cX3_weightOf 49 = .ok (.lmul, 1) := dq daX3_weightOf_0 (i := 27) rfl
theorem dX3_weightOf_50 : decode cX3_weightOf 50 = .ok (.ldc2_w 63, 3) := dq daX3_weightOf_0 (i := 28) rfl
theorem dX3_weightOf_53 : decode cX3_weightOf 53 = .ok (.lsub, 1) := dq daX3_weightOf_0 (i := 29) rfl
theorem dX3_weightOf_54 : decode cX3_weightOf 54 = .ok (.iload 4, 2) := dq daX3_weightOf_0 (i := 30) rfl
theorem dX3_weightOf_56 : decode cX3_weightOf 56 = .ok (.i2l, 1) := dq daX3_weightOf_0 (i := 31) rfl
theorem dX3_weightOf_57 : decode cX3_weightOf 57 = .ok (.ladd, 1) := dq daX3_weightOf_0 (i := 32) rfl
theorem dX3_weightOf_58 : decode cX3_weightOf 58 = .ok (.lconst 1, 1) := dq daX3_weightOf_0 (i := 33) rfl
theorem dX3_weightOf_59 : decode cX3_weightOf 59 = .ok (.lsub, 1) := dq daX3_weightOf_0 (i := 34) rfl
theorem dX3_weightOf_60 : decode cX3_weightOf 60 = .ok (.lreturn, 1) := dq daX3_weightOf_0 (i := 35) rfl
theorem daX3_aboveOf_0 : dchk cX3_aboveOf [(0, .aload_n 0, 1), (1, .lload_n 1, 1), (2, .iconst 0, 1), (3, .invokevirtual 65, 3), (6, .lreturn, 1)] = true := by decide +kernel
theorem dX3_aboveOf_0 : decode cX3_aboveOf 0 = .ok (.aload_n 0, 1) := dq daX3_aboveOf_0 (i := 0) rfl
theorem dX3_aboveOf_1 : decode cX3_aboveOf 1 = .ok (.lload_n 1, 1) := dq daX3_aboveOf_0 (i := 1) rfl
theorem dX3_aboveOf_2 : decode cX3_aboveOf 2 = .ok (.iconst 0, 1) := dq daX3_aboveOf_0 (i := 2) rfl
theorem dX3_aboveOf_3 : decode cX3_aboveOf 3 = .ok (.invokevirtual 65, 3) := dq daX3_aboveOf_0 (i := 3) rfl
theorem dX3_aboveOf_6 : decode cX3_aboveOf 6 = .ok (.lreturn, 1) := dq daX3_aboveOf_0 (i := 4) rfl
theorem daX3_workOut_0 : dchk cX3_workOut [(0, .lload_n 1, 1), (1, .lconst 0, 1), (2, .lcmp, 1), (3, .ifCond .eq 9, 3), (6, .iload_n 3, 1), (7, .bipush 16, 2), (9, .if_icmp .le 5, 3), (12, .lconst 0, 1), (13, .lreturn, 1), (14, .aload_n 0, 1), (15, .lload_n 1, 1), (16, .invokevirtual 69, 3), (19, .istore 4, 2), (21, .iload 4, 2), (23, .iconst (-1), 1), (24, .if_icmp .eq 23, 3), (27, .aload_n 0, 1), (28, .getfield 11, 3), (31, .iload 4, 2), (33, .laload, 1), (34, .lload_n 1, 1), (35, .lcmp, 1), (36, .ifCond .ne 11, 3), (39, .aload_n 0, 1), (40, .getfield 15, 3), (43, .iload 4, 2), (45, .laload, 1), (46, .lreturn, 1), (47, .lload_n 1, 1), (48, .invokestatic 73, 3), (51, .istore 5, 2), (53, .lload_n 1, 1), (54, .invokestatic 37, 3), (57, .lstore 6, 2), (59, .iconst 1, 1), (60, .istore 8, 2), (62, .iload 8, 2), (64, .bipush 14, 2), (66, .if_icmp .gt 49, 3), (69, .lload_n 1, 1)] = true := by decide +kernel
theorem dX3_workOut_0 : decode cX3_workOut 0 = .ok (.lload_n 1, 1) := dq daX3_workOut_0 (i := 0) rfl
theorem dX3_workOut_1 : decode cX3_workOut 1 = .ok (.lconst 0, 1) := dq daX3_workOut_0 (i := 1) rfl
theorem dX3_workOut_2 : decode cX3_workOut 2 = .ok (.lcmp, 1) := dq daX3_workOut_0 (i := 2) rfl
theorem dX3_workOut_3 : decode cX3_workOut 3 = .ok (.ifCond .eq 9, 3) := dq daX3_workOut_0 (i := 3) rfl
theorem dX3_workOut_6 : decode cX3_workOut 6 = .ok (.iload_n 3, 1) := dq daX3_workOut_0 (i := 4) rfl
theorem dX3_workOut_7 : decode cX3_workOut 7 = .ok (.bipush 16, 2) := dq daX3_workOut_0 (i := 5) rfl
theorem dX3_workOut_9 : decode cX3_workOut 9 = .ok (.if_icmp .le 5, 3) := dq daX3_workOut_0 (i := 6) rfl
theorem dX3_workOut_12 : decode cX3_workOut 12 = .ok (.lconst 0, 1) := dq daX3_workOut_0 (i := 7) rfl
theorem dX3_workOut_13 : decode cX3_workOut 13 = .ok (.lreturn, 1) := dq daX3_workOut_0 (i := 8) rfl
theorem dX3_workOut_14 : decode cX3_workOut 14 = .ok (.aload_n 0, 1) := dq daX3_workOut_0 (i := 9) rfl
theorem dX3_workOut_15 : decode cX3_workOut 15 = .ok (.lload_n 1, 1) := dq daX3_workOut_0 (i := 10) rfl
theorem dX3_workOut_16 : decode cX3_workOut 16 = .ok (.invokevirtual 69, 3) := dq daX3_workOut_0 (i := 11) rfl
theorem dX3_workOut_19 : decode cX3_workOut 19 = .ok (.istore 4, 2) := dq daX3_workOut_0 (i := 12) rfl
theorem dX3_workOut_21 : decode cX3_workOut 21 = .ok (.iload 4, 2) := dq daX3_workOut_0 (i := 13) rfl
theorem dX3_workOut_23 : decode cX3_workOut 23 = .ok (.iconst (-1), 1) := dq daX3_workOut_0 (i := 14) rfl
theorem dX3_workOut_24 : decode cX3_workOut 24 = .ok (.if_icmp .eq 23, 3) := dq daX3_workOut_0 (i := 15) rfl
theorem dX3_workOut_27 : decode cX3_workOut 27 = .ok (.aload_n 0, 1) := dq daX3_workOut_0 (i := 16) rfl
theorem dX3_workOut_28 : decode cX3_workOut 28 = .ok (.getfield 11, 3) := dq daX3_workOut_0 (i := 17) rfl
theorem dX3_workOut_31 : decode cX3_workOut 31 = .ok (.iload 4, 2) := dq daX3_workOut_0 (i := 18) rfl
theorem dX3_workOut_33 : decode cX3_workOut 33 = .ok (.laload, 1) := dq daX3_workOut_0 (i := 19) rfl
theorem dX3_workOut_34 : decode cX3_workOut 34 = .ok (.lload_n 1, 1) := dq daX3_workOut_0 (i := 20) rfl
theorem dX3_workOut_35 : decode cX3_workOut 35 = .ok (.lcmp, 1) := dq daX3_workOut_0 (i := 21) rfl
theorem dX3_workOut_36 : decode cX3_workOut 36 = .ok (.ifCond .ne 11, 3) := dq daX3_workOut_0 (i := 22) rfl
theorem dX3_workOut_39 : decode cX3_workOut 39 = .ok (.aload_n 0, 1) := dq daX3_workOut_0 (i := 23) rfl
theorem dX3_workOut_40 : decode cX3_workOut 40 = .ok (.getfield 15, 3) := dq daX3_workOut_0 (i := 24) rfl
theorem dX3_workOut_43 : decode cX3_workOut 43 = .ok (.iload 4, 2) := dq daX3_workOut_0 (i := 25) rfl
theorem dX3_workOut_45 : decode cX3_workOut 45 = .ok (.laload, 1) := dq daX3_workOut_0 (i := 26) rfl
theorem dX3_workOut_46 : decode cX3_workOut 46 = .ok (.lreturn, 1) := dq daX3_workOut_0 (i := 27) rfl
theorem dX3_workOut_47 : decode cX3_workOut 47 = .ok (.lload_n 1, 1) := dq daX3_workOut_0 (i := 28) rfl
theorem dX3_workOut_48 : decode cX3_workOut 48 = .ok (.invokestatic 73, 3) := dq daX3_workOut_0 (i := 29) rfl
theorem dX3_workOut_51 : decode cX3_workOut 51 = .ok (.istore 5, 2) := dq daX3_workOut_0 (i := 30) rfl
theorem dX3_workOut_53 : decode cX3_workOut 53 = .ok (.lload_n 1, 1) := dq daX3_workOut_0 (i := 31) rfl
theorem dX3_workOut_54 : decode cX3_workOut 54 = .ok (.invokestatic 37, 3) := dq daX3_workOut_0 (i := 32) rfl
theorem dX3_workOut_57 : decode cX3_workOut 57 = .ok (.lstore 6, 2) := dq daX3_workOut_0 (i := 33) rfl
theorem dX3_workOut_59 : decode cX3_workOut 59 = .ok (.iconst 1, 1) := dq daX3_workOut_0 (i := 34) rfl
theorem dX3_workOut_60 : decode cX3_workOut 60 = .ok (.istore 8, 2) := dq daX3_workOut_0 (i := 35) rfl
theorem dX3_workOut_62 : decode cX3_workOut 62 = .ok (.iload 8, 2) := dq daX3_workOut_0 (i := 36) rfl
theorem dX3_workOut_64 : decode cX3_workOut 64 = .ok (.bipush 14, 2) := dq daX3_workOut_0 (i := 37) rfl
theorem dX3_workOut_66 : decode cX3_workOut 66 = .ok (.if_icmp .gt 49, 3) := dq daX3_workOut_0 (i := 38) rfl
theorem dX3_workOut_69 : decode cX3_workOut 69 = .ok (.lload_n 1, 1) := dq daX3_workOut_0 (i := 39) rfl
theorem daX3_workOut_40 : dchk cX3_workOut [(70, .iload 5, 2), (72, .iload 8, 2), (74, .invokestatic 76, 3), (77, .lstore 9, 2), (79, .lload 9, 2), (81, .lconst 0, 1), (82, .lcmp, 1), (83, .ifCond .eq 26, 3), (86, .lload 6, 2), (88, .lload_n 1, 1), (89, .iload 5, 2), (91, .iload 8, 2), (93, .invokestatic 80, 3), (96, .aload_n 0, 1), (97, .lload 9, 2), (99, .iload_n 3, 1), (100, .iconst 1, 1), (101, .iadd, 1), (102, .invokevirtual 65, 3), (105, .lmul, 1), (106, .ladd, 1), (107, .lstore 6, 2), (109, .iinc 8 1, 3), (112, .goto (-50), 3), (115, .aload_n 0, 1), (116, .lload_n 1, 1), (117, .lload 6, 2), (119, .invokevirtual 83, 3), (122, .lload 6, 2), (124, .lreturn, 1)] = true := by decide +kernel
theorem dX3_workOut_70 : decode cX3_workOut 70 = .ok (.iload 5, 2) := dq daX3_workOut_40 (i := 0) rfl
theorem dX3_workOut_72 : decode cX3_workOut 72 = .ok (.iload 8, 2) := dq daX3_workOut_40 (i := 1) rfl
theorem dX3_workOut_74 : decode cX3_workOut 74 = .ok (.invokestatic 76, 3) := dq daX3_workOut_40 (i := 2) rfl
theorem dX3_workOut_77 : decode cX3_workOut 77 = .ok (.lstore 9, 2) := dq daX3_workOut_40 (i := 3) rfl
theorem dX3_workOut_79 : decode cX3_workOut 79 = .ok (.lload 9, 2) := dq daX3_workOut_40 (i := 4) rfl
theorem dX3_workOut_81 : decode cX3_workOut 81 = .ok (.lconst 0, 1) := dq daX3_workOut_40 (i := 5) rfl
theorem dX3_workOut_82 : decode cX3_workOut 82 = .ok (.lcmp, 1) := dq daX3_workOut_40 (i := 6) rfl
theorem dX3_workOut_83 : decode cX3_workOut 83 = .ok (.ifCond .eq 26, 3) := dq daX3_workOut_40 (i := 7) rfl
theorem dX3_workOut_86 : decode cX3_workOut 86 = .ok (.lload 6, 2) := dq daX3_workOut_40 (i := 8) rfl
theorem dX3_workOut_88 : decode cX3_workOut 88 = .ok (.lload_n 1, 1) := dq daX3_workOut_40 (i := 9) rfl
theorem dX3_workOut_89 : decode cX3_workOut 89 = .ok (.iload 5, 2) := dq daX3_workOut_40 (i := 10) rfl
theorem dX3_workOut_91 : decode cX3_workOut 91 = .ok (.iload 8, 2) := dq daX3_workOut_40 (i := 11) rfl
theorem dX3_workOut_93 : decode cX3_workOut 93 = .ok (.invokestatic 80, 3) := dq daX3_workOut_40 (i := 12) rfl
theorem dX3_workOut_96 : decode cX3_workOut 96 = .ok (.aload_n 0, 1) := dq daX3_workOut_40 (i := 13) rfl
theorem dX3_workOut_97 : decode cX3_workOut 97 = .ok (.lload 9, 2) := dq daX3_workOut_40 (i := 14) rfl
theorem dX3_workOut_99 : decode cX3_workOut 99 = .ok (.iload_n 3, 1) := dq daX3_workOut_40 (i := 15) rfl
theorem dX3_workOut_100 : decode cX3_workOut 100 = .ok (.iconst 1, 1) := dq daX3_workOut_40 (i := 16) rfl
theorem dX3_workOut_101 : decode cX3_workOut 101 = .ok (.iadd, 1) := dq daX3_workOut_40 (i := 17) rfl
theorem dX3_workOut_102 : decode cX3_workOut 102 = .ok (.invokevirtual 65, 3) := dq daX3_workOut_40 (i := 18) rfl
theorem dX3_workOut_105 : decode cX3_workOut 105 = .ok (.lmul, 1) := dq daX3_workOut_40 (i := 19) rfl
theorem dX3_workOut_106 : decode cX3_workOut 106 = .ok (.ladd, 1) := dq daX3_workOut_40 (i := 20) rfl
theorem dX3_workOut_107 : decode cX3_workOut 107 = .ok (.lstore 6, 2) := dq daX3_workOut_40 (i := 21) rfl
theorem dX3_workOut_109 : decode cX3_workOut 109 = .ok (.iinc 8 1, 3) := dq daX3_workOut_40 (i := 22) rfl
theorem dX3_workOut_112 : decode cX3_workOut 112 = .ok (.goto (-50), 3) := dq daX3_workOut_40 (i := 23) rfl
theorem dX3_workOut_115 : decode cX3_workOut 115 = .ok (.aload_n 0, 1) := dq daX3_workOut_40 (i := 24) rfl
theorem dX3_workOut_116 : decode cX3_workOut 116 = .ok (.lload_n 1, 1) := dq daX3_workOut_40 (i := 25) rfl
theorem dX3_workOut_117 : decode cX3_workOut 117 = .ok (.lload 6, 2) := dq daX3_workOut_40 (i := 26) rfl
theorem dX3_workOut_119 : decode cX3_workOut 119 = .ok (.invokevirtual 83, 3) := dq daX3_workOut_40 (i := 27) rfl
theorem dX3_workOut_122 : decode cX3_workOut 122 = .ok (.lload 6, 2) := dq daX3_workOut_40 (i := 28) rfl
theorem dX3_workOut_124 : decode cX3_workOut 124 = .ok (.lreturn, 1) := dq daX3_workOut_40 (i := 29) rfl
theorem daX3_countMet_0 : dchk cX3_countMet [(0, .aload_n 0, 1), (1, .lload_n 1, 1), (2, .iconst 0, 1), (3, .invokevirtual 65, 3), (6, .pop2, 1), (7, .aload_n 0, 1), (8, .dup, 1), (9, .getfield 87, 3), (12, .iconst 1, 1), (13, .iadd, 1), (14, .putfield 87, 3), (17, .aload_n 0, 1), (18, .lload_n 1, 1), (19, .iconst 0, 1), (20, .invokevirtual 90, 3), (23, .ireturn, 1)] = true := by decide +kernel
theorem dX3_countMet_0 : decode cX3_countMet 0 = .ok (.aload_n 0, 1) := dq daX3_countMet_0 (i := 0) rfl
theorem dX3_countMet_1 : decode cX3_countMet 1 = .ok (.lload_n 1, 1) := dq daX3_countMet_0 (i := 1) rfl
theorem dX3_countMet_2 : decode cX3_countMet 2 = .ok (.iconst 0, 1) := dq daX3_countMet_0 (i := 2) rfl
theorem dX3_countMet_3 : decode cX3_countMet 3 = .ok (.invokevirtual 65, 3) := dq daX3_countMet_0 (i := 3) rfl
theorem dX3_countMet_6 : decode cX3_countMet 6 = .ok (.pop2, 1) := dq daX3_countMet_0 (i := 4) rfl
theorem dX3_countMet_7 : decode cX3_countMet 7 = .ok (.aload_n 0, 1) := dq daX3_countMet_0 (i := 5) rfl
theorem dX3_countMet_8 : decode cX3_countMet 8 = .ok (.dup, 1) := dq daX3_countMet_0 (i := 6) rfl
theorem dX3_countMet_9 : decode cX3_countMet 9 = .ok (.getfield 87, 3) := dq daX3_countMet_0 (i := 7) rfl
theorem dX3_countMet_12 : decode cX3_countMet 12 = .ok (.iconst 1, 1) := dq daX3_countMet_0 (i := 8) rfl
theorem dX3_countMet_13 : decode cX3_countMet 13 = .ok (.iadd, 1) := dq daX3_countMet_0 (i := 9) rfl
theorem dX3_countMet_14 : decode cX3_countMet 14 = .ok (.putfield 87, 3) := dq daX3_countMet_0 (i := 10) rfl
theorem dX3_countMet_17 : decode cX3_countMet 17 = .ok (.aload_n 0, 1) := dq daX3_countMet_0 (i := 11) rfl
theorem dX3_countMet_18 : decode cX3_countMet 18 = .ok (.lload_n 1, 1) := dq daX3_countMet_0 (i := 12) rfl
theorem dX3_countMet_19 : decode cX3_countMet 19 = .ok (.iconst 0, 1) := dq daX3_countMet_0 (i := 13) rfl
theorem dX3_countMet_20 : decode cX3_countMet 20 = .ok (.invokevirtual 90, 3) := dq daX3_countMet_0 (i := 14) rfl
theorem dX3_countMet_23 : decode cX3_countMet 23 = .ok (.ireturn, 1) := dq daX3_countMet_0 (i := 15) rfl
theorem daX3_meet_0 : dchk cX3_meet [(0, .lload_n 1, 1), (1, .lconst 0, 1), (2, .lcmp, 1), (3, .ifCond .eq 9, 3), (6, .iload_n 3, 1), (7, .bipush 16, 2), (9, .if_icmp .le 5, 3), (12, .iconst 0, 1), (13, .ireturn, 1), (14, .aload_n 0, 1), (15, .lload_n 1, 1), (16, .invokevirtual 69, 3), (19, .istore 4, 2), (21, .iload 4, 2), (23, .iconst (-1), 1), (24, .if_icmp .eq 29, 3), (27, .aload_n 0, 1), (28, .getfield 11, 3), (31, .iload 4, 2), (33, .laload, 1), (34, .lload_n 1, 1), (35, .lcmp, 1), (36, .ifCond .ne 17, 3), (39, .aload_n 0, 1), (40, .getfield 18, 3), (43, .iload 4, 2), (45, .iaload, 1), (46, .aload_n 0, 1), (47, .getfield 87, 3), (50, .if_icmp .ne 5, 3), (53, .iconst 0, 1), (54, .ireturn, 1), (55, .aload_n 0, 1), (56, .getfield 18, 3), (59, .iload 4, 2), (61, .aload_n 0, 1), (62, .getfield 87, 3), (65, .iastore, 1), (66, .lload_n 1, 1), (67, .invokestatic 73, 3)] = true := by decide +kernel
theorem dX3_meet_0 : decode cX3_meet 0 = .ok (.lload_n 1, 1) := dq daX3_meet_0 (i := 0) rfl
theorem dX3_meet_1 : decode cX3_meet 1 = .ok (.lconst 0, 1) := dq daX3_meet_0 (i := 1) rfl
theorem dX3_meet_2 : decode cX3_meet 2 = .ok (.lcmp, 1) := dq daX3_meet_0 (i := 2) rfl
theorem dX3_meet_3 : decode cX3_meet 3 = .ok (.ifCond .eq 9, 3) := dq daX3_meet_0 (i := 3) rfl
theorem dX3_meet_6 : decode cX3_meet 6 = .ok (.iload_n 3, 1) := dq daX3_meet_0 (i := 4) rfl
theorem dX3_meet_7 : decode cX3_meet 7 = .ok (.bipush 16, 2) := dq daX3_meet_0 (i := 5) rfl
theorem dX3_meet_9 : decode cX3_meet 9 = .ok (.if_icmp .le 5, 3) := dq daX3_meet_0 (i := 6) rfl
theorem dX3_meet_12 : decode cX3_meet 12 = .ok (.iconst 0, 1) := dq daX3_meet_0 (i := 7) rfl
theorem dX3_meet_13 : decode cX3_meet 13 = .ok (.ireturn, 1) := dq daX3_meet_0 (i := 8) rfl
theorem dX3_meet_14 : decode cX3_meet 14 = .ok (.aload_n 0, 1) := dq daX3_meet_0 (i := 9) rfl
theorem dX3_meet_15 : decode cX3_meet 15 = .ok (.lload_n 1, 1) := dq daX3_meet_0 (i := 10) rfl
theorem dX3_meet_16 : decode cX3_meet 16 = .ok (.invokevirtual 69, 3) := dq daX3_meet_0 (i := 11) rfl
theorem dX3_meet_19 : decode cX3_meet 19 = .ok (.istore 4, 2) := dq daX3_meet_0 (i := 12) rfl
theorem dX3_meet_21 : decode cX3_meet 21 = .ok (.iload 4, 2) := dq daX3_meet_0 (i := 13) rfl
theorem dX3_meet_23 : decode cX3_meet 23 = .ok (.iconst (-1), 1) := dq daX3_meet_0 (i := 14) rfl
theorem dX3_meet_24 : decode cX3_meet 24 = .ok (.if_icmp .eq 29, 3) := dq daX3_meet_0 (i := 15) rfl
theorem dX3_meet_27 : decode cX3_meet 27 = .ok (.aload_n 0, 1) := dq daX3_meet_0 (i := 16) rfl
theorem dX3_meet_28 : decode cX3_meet 28 = .ok (.getfield 11, 3) := dq daX3_meet_0 (i := 17) rfl
theorem dX3_meet_31 : decode cX3_meet 31 = .ok (.iload 4, 2) := dq daX3_meet_0 (i := 18) rfl
theorem dX3_meet_33 : decode cX3_meet 33 = .ok (.laload, 1) := dq daX3_meet_0 (i := 19) rfl
theorem dX3_meet_34 : decode cX3_meet 34 = .ok (.lload_n 1, 1) := dq daX3_meet_0 (i := 20) rfl
theorem dX3_meet_35 : decode cX3_meet 35 = .ok (.lcmp, 1) := dq daX3_meet_0 (i := 21) rfl
theorem dX3_meet_36 : decode cX3_meet 36 = .ok (.ifCond .ne 17, 3) := dq daX3_meet_0 (i := 22) rfl
theorem dX3_meet_39 : decode cX3_meet 39 = .ok (.aload_n 0, 1) := dq daX3_meet_0 (i := 23) rfl
theorem dX3_meet_40 : decode cX3_meet 40 = .ok (.getfield 18, 3) := dq daX3_meet_0 (i := 24) rfl
theorem dX3_meet_43 : decode cX3_meet 43 = .ok (.iload 4, 2) := dq daX3_meet_0 (i := 25) rfl
theorem dX3_meet_45 : decode cX3_meet 45 = .ok (.iaload, 1) := dq daX3_meet_0 (i := 26) rfl
theorem dX3_meet_46 : decode cX3_meet 46 = .ok (.aload_n 0, 1) := dq daX3_meet_0 (i := 27) rfl
theorem dX3_meet_47 : decode cX3_meet 47 = .ok (.getfield 87, 3) := dq daX3_meet_0 (i := 28) rfl
theorem dX3_meet_50 : decode cX3_meet 50 = .ok (.if_icmp .ne 5, 3) := dq daX3_meet_0 (i := 29) rfl
theorem dX3_meet_53 : decode cX3_meet 53 = .ok (.iconst 0, 1) := dq daX3_meet_0 (i := 30) rfl
theorem dX3_meet_54 : decode cX3_meet 54 = .ok (.ireturn, 1) := dq daX3_meet_0 (i := 31) rfl
theorem dX3_meet_55 : decode cX3_meet 55 = .ok (.aload_n 0, 1) := dq daX3_meet_0 (i := 32) rfl
theorem dX3_meet_56 : decode cX3_meet 56 = .ok (.getfield 18, 3) := dq daX3_meet_0 (i := 33) rfl
theorem dX3_meet_59 : decode cX3_meet 59 = .ok (.iload 4, 2) := dq daX3_meet_0 (i := 34) rfl
theorem dX3_meet_61 : decode cX3_meet 61 = .ok (.aload_n 0, 1) := dq daX3_meet_0 (i := 35) rfl
theorem dX3_meet_62 : decode cX3_meet 62 = .ok (.getfield 87, 3) := dq daX3_meet_0 (i := 36) rfl
theorem dX3_meet_65 : decode cX3_meet 65 = .ok (.iastore, 1) := dq daX3_meet_0 (i := 37) rfl
theorem dX3_meet_66 : decode cX3_meet 66 = .ok (.lload_n 1, 1) := dq daX3_meet_0 (i := 38) rfl
theorem dX3_meet_67 : decode cX3_meet 67 = .ok (.invokestatic 73, 3) := dq daX3_meet_0 (i := 39) rfl
theorem daX3_meet_40 : dchk cX3_meet [(70, .istore 5, 2), (72, .iconst 1, 1), (73, .istore 6, 2), (75, .iconst 1, 1), (76, .istore 7, 2), (78, .iload 7, 2), (80, .bipush 14, 2), (82, .if_icmp .gt 29, 3), (85, .iload 6, 2), (87, .aload_n 0, 1), (88, .lload_n 1, 1), (89, .iload 5, 2), (91, .iload 7, 2), (93, .invokestatic 76, 3), (96, .iload_n 3, 1), (97, .iconst 1, 1), (98, .iadd, 1), (99, .invokevirtual 90, 3), (102, .iadd, 1), (103, .istore 6, 2), (105, .iinc 7 1, 3), (108, .goto (-30), 3), (111, .iload 6, 2), (113, .ireturn, 1)] = true := by decide +kernel
theorem dX3_meet_70 : decode cX3_meet 70 = .ok (.istore 5, 2) := dq daX3_meet_40 (i := 0) rfl
theorem dX3_meet_72 : decode cX3_meet 72 = .ok (.iconst 1, 1) := dq daX3_meet_40 (i := 1) rfl
theorem dX3_meet_73 : decode cX3_meet 73 = .ok (.istore 6, 2) := dq daX3_meet_40 (i := 2) rfl
theorem dX3_meet_75 : decode cX3_meet 75 = .ok (.iconst 1, 1) := dq daX3_meet_40 (i := 3) rfl
theorem dX3_meet_76 : decode cX3_meet 76 = .ok (.istore 7, 2) := dq daX3_meet_40 (i := 4) rfl
theorem dX3_meet_78 : decode cX3_meet 78 = .ok (.iload 7, 2) := dq daX3_meet_40 (i := 5) rfl
theorem dX3_meet_80 : decode cX3_meet 80 = .ok (.bipush 14, 2) := dq daX3_meet_40 (i := 6) rfl
theorem dX3_meet_82 : decode cX3_meet 82 = .ok (.if_icmp .gt 29, 3) := dq daX3_meet_40 (i := 7) rfl
theorem dX3_meet_85 : decode cX3_meet 85 = .ok (.iload 6, 2) := dq daX3_meet_40 (i := 8) rfl
theorem dX3_meet_87 : decode cX3_meet 87 = .ok (.aload_n 0, 1) := dq daX3_meet_40 (i := 9) rfl
theorem dX3_meet_88 : decode cX3_meet 88 = .ok (.lload_n 1, 1) := dq daX3_meet_40 (i := 10) rfl
theorem dX3_meet_89 : decode cX3_meet 89 = .ok (.iload 5, 2) := dq daX3_meet_40 (i := 11) rfl
theorem dX3_meet_91 : decode cX3_meet 91 = .ok (.iload 7, 2) := dq daX3_meet_40 (i := 12) rfl
theorem dX3_meet_93 : decode cX3_meet 93 = .ok (.invokestatic 76, 3) := dq daX3_meet_40 (i := 13) rfl
theorem dX3_meet_96 : decode cX3_meet 96 = .ok (.iload_n 3, 1) := dq daX3_meet_40 (i := 14) rfl
theorem dX3_meet_97 : decode cX3_meet 97 = .ok (.iconst 1, 1) := dq daX3_meet_40 (i := 15) rfl
theorem dX3_meet_98 : decode cX3_meet 98 = .ok (.iadd, 1) := dq daX3_meet_40 (i := 16) rfl
theorem dX3_meet_99 : decode cX3_meet 99 = .ok (.invokevirtual 90, 3) := dq daX3_meet_40 (i := 17) rfl
theorem dX3_meet_102 : decode cX3_meet 102 = .ok (.iadd, 1) := dq daX3_meet_40 (i := 18) rfl
theorem dX3_meet_103 : decode cX3_meet 103 = .ok (.istore 6, 2) := dq daX3_meet_40 (i := 19) rfl
theorem dX3_meet_105 : decode cX3_meet 105 = .ok (.iinc 7 1, 3) := dq daX3_meet_40 (i := 20) rfl
theorem dX3_meet_108 : decode cX3_meet 108 = .ok (.goto (-30), 3) := dq daX3_meet_40 (i := 21) rfl
theorem dX3_meet_111 : decode cX3_meet 111 = .ok (.iload 6, 2) := dq daX3_meet_40 (i := 22) rfl
theorem dX3_meet_113 : decode cX3_meet 113 = .ok (.ireturn, 1) := dq daX3_meet_40 (i := 23) rfl
theorem daX3_keep_0 : dchk cX3_keep [(0, .aload_n 0, 1), (1, .lload_n 1, 1), (2, .invokevirtual 69, 3), (5, .istore 5, 2), (7, .iload 5, 2), (9, .iconst (-1), 1), (10, .if_icmp .eq 19, 3), (13, .aload_n 0, 1), (14, .getfield 11, 3), (17, .iload 5, 2), (19, .lload_n 1, 1), (20, .lastore, 1), (21, .aload_n 0, 1), (22, .getfield 15, 3), (25, .iload 5, 2), (27, .lload_n 3, 1), (28, .lastore, 1), (29, .return_, 1)] = true := by decide +kernel
theorem dX3_keep_0 : decode cX3_keep 0 = .ok (.aload_n 0, 1) := dq daX3_keep_0 (i := 0) rfl
theorem dX3_keep_1 : decode cX3_keep 1 = .ok (.lload_n 1, 1) := dq daX3_keep_0 (i := 1) rfl
theorem dX3_keep_2 : decode cX3_keep 2 = .ok (.invokevirtual 69, 3) := dq daX3_keep_0 (i := 2) rfl
theorem dX3_keep_5 : decode cX3_keep 5 = .ok (.istore 5, 2) := dq daX3_keep_0 (i := 3) rfl
theorem dX3_keep_7 : decode cX3_keep 7 = .ok (.iload 5, 2) := dq daX3_keep_0 (i := 4) rfl
theorem dX3_keep_9 : decode cX3_keep 9 = .ok (.iconst (-1), 1) := dq daX3_keep_0 (i := 5) rfl
theorem dX3_keep_10 : decode cX3_keep 10 = .ok (.if_icmp .eq 19, 3) := dq daX3_keep_0 (i := 6) rfl
theorem dX3_keep_13 : decode cX3_keep 13 = .ok (.aload_n 0, 1) := dq daX3_keep_0 (i := 7) rfl
theorem dX3_keep_14 : decode cX3_keep 14 = .ok (.getfield 11, 3) := dq daX3_keep_0 (i := 8) rfl
theorem dX3_keep_17 : decode cX3_keep 17 = .ok (.iload 5, 2) := dq daX3_keep_0 (i := 9) rfl
theorem dX3_keep_19 : decode cX3_keep 19 = .ok (.lload_n 1, 1) := dq daX3_keep_0 (i := 10) rfl
theorem dX3_keep_20 : decode cX3_keep 20 = .ok (.lastore, 1) := dq daX3_keep_0 (i := 11) rfl
theorem dX3_keep_21 : decode cX3_keep 21 = .ok (.aload_n 0, 1) := dq daX3_keep_0 (i := 12) rfl
theorem dX3_keep_22 : decode cX3_keep 22 = .ok (.getfield 15, 3) := dq daX3_keep_0 (i := 13) rfl
theorem dX3_keep_25 : decode cX3_keep 25 = .ok (.iload 5, 2) := dq daX3_keep_0 (i := 14) rfl
theorem dX3_keep_27 : decode cX3_keep 27 = .ok (.lload_n 3, 1) := dq daX3_keep_0 (i := 15) rfl
theorem dX3_keep_28 : decode cX3_keep 28 = .ok (.lastore, 1) := dq daX3_keep_0 (i := 16) rfl
theorem dX3_keep_29 : decode cX3_keep 29 = .ok (.return_, 1) := dq daX3_keep_0 (i := 17) rfl
theorem daX3_slotOf_0 : dchk cX3_slotOf [(0, .lload_n 1, 1), (1, .ldc2_w 93, 3), (4, .lmul, 1), (5, .bipush 54, 2), (7, .lushr, 1), (8, .l2i, 1), (9, .sipush 1023, 3), (12, .iand, 1), (13, .istore_n 3, 1), (14, .iconst 0, 1), (15, .istore 4, 2), (17, .iload 4, 2), (19, .sipush 1024, 3), (22, .if_icmp .ge 41, 3), (25, .aload_n 0, 1), (26, .getfield 11, 3), (29, .iload_n 3, 1), (30, .laload, 1), (31, .lload_n 1, 1), (32, .lcmp, 1), (33, .ifCond .eq 14, 3), (36, .aload_n 0, 1), (37, .getfield 11, 3), (40, .iload_n 3, 1), (41, .laload, 1), (42, .lconst 0, 1), (43, .lcmp, 1), (44, .ifCond .ne 5, 3), (47, .iload_n 3, 1), (48, .ireturn, 1), (49, .iload_n 3, 1), (50, .iconst 1, 1), (51, .iadd, 1), (52, .sipush 1023, 3), (55, .iand, 1), (56, .istore_n 3, 1), (57, .iinc 4 1, 3), (60, .goto (-43), 3), (63, .iconst (-1), 1), (64, .ireturn, 1)] = true := by decide +kernel
theorem dX3_slotOf_0 : decode cX3_slotOf 0 = .ok (.lload_n 1, 1) := dq daX3_slotOf_0 (i := 0) rfl
theorem dX3_slotOf_1 : decode cX3_slotOf 1 = .ok (.ldc2_w 93, 3) := dq daX3_slotOf_0 (i := 1) rfl
theorem dX3_slotOf_4 : decode cX3_slotOf 4 = .ok (.lmul, 1) := dq daX3_slotOf_0 (i := 2) rfl
theorem dX3_slotOf_5 : decode cX3_slotOf 5 = .ok (.bipush 54, 2) := dq daX3_slotOf_0 (i := 3) rfl
theorem dX3_slotOf_7 : decode cX3_slotOf 7 = .ok (.lushr, 1) := dq daX3_slotOf_0 (i := 4) rfl
theorem dX3_slotOf_8 : decode cX3_slotOf 8 = .ok (.l2i, 1) := dq daX3_slotOf_0 (i := 5) rfl
theorem dX3_slotOf_9 : decode cX3_slotOf 9 = .ok (.sipush 1023, 3) := dq daX3_slotOf_0 (i := 6) rfl
theorem dX3_slotOf_12 : decode cX3_slotOf 12 = .ok (.iand, 1) := dq daX3_slotOf_0 (i := 7) rfl
theorem dX3_slotOf_13 : decode cX3_slotOf 13 = .ok (.istore_n 3, 1) := dq daX3_slotOf_0 (i := 8) rfl
theorem dX3_slotOf_14 : decode cX3_slotOf 14 = .ok (.iconst 0, 1) := dq daX3_slotOf_0 (i := 9) rfl
theorem dX3_slotOf_15 : decode cX3_slotOf 15 = .ok (.istore 4, 2) := dq daX3_slotOf_0 (i := 10) rfl
theorem dX3_slotOf_17 : decode cX3_slotOf 17 = .ok (.iload 4, 2) := dq daX3_slotOf_0 (i := 11) rfl
theorem dX3_slotOf_19 : decode cX3_slotOf 19 = .ok (.sipush 1024, 3) := dq daX3_slotOf_0 (i := 12) rfl
theorem dX3_slotOf_22 : decode cX3_slotOf 22 = .ok (.if_icmp .ge 41, 3) := dq daX3_slotOf_0 (i := 13) rfl
theorem dX3_slotOf_25 : decode cX3_slotOf 25 = .ok (.aload_n 0, 1) := dq daX3_slotOf_0 (i := 14) rfl
theorem dX3_slotOf_26 : decode cX3_slotOf 26 = .ok (.getfield 11, 3) := dq daX3_slotOf_0 (i := 15) rfl
theorem dX3_slotOf_29 : decode cX3_slotOf 29 = .ok (.iload_n 3, 1) := dq daX3_slotOf_0 (i := 16) rfl
theorem dX3_slotOf_30 : decode cX3_slotOf 30 = .ok (.laload, 1) := dq daX3_slotOf_0 (i := 17) rfl
theorem dX3_slotOf_31 : decode cX3_slotOf 31 = .ok (.lload_n 1, 1) := dq daX3_slotOf_0 (i := 18) rfl
theorem dX3_slotOf_32 : decode cX3_slotOf 32 = .ok (.lcmp, 1) := dq daX3_slotOf_0 (i := 19) rfl
theorem dX3_slotOf_33 : decode cX3_slotOf 33 = .ok (.ifCond .eq 14, 3) := dq daX3_slotOf_0 (i := 20) rfl
theorem dX3_slotOf_36 : decode cX3_slotOf 36 = .ok (.aload_n 0, 1) := dq daX3_slotOf_0 (i := 21) rfl
theorem dX3_slotOf_37 : decode cX3_slotOf 37 = .ok (.getfield 11, 3) := dq daX3_slotOf_0 (i := 22) rfl
theorem dX3_slotOf_40 : decode cX3_slotOf 40 = .ok (.iload_n 3, 1) := dq daX3_slotOf_0 (i := 23) rfl
theorem dX3_slotOf_41 : decode cX3_slotOf 41 = .ok (.laload, 1) := dq daX3_slotOf_0 (i := 24) rfl
theorem dX3_slotOf_42 : decode cX3_slotOf 42 = .ok (.lconst 0, 1) := dq daX3_slotOf_0 (i := 25) rfl
theorem dX3_slotOf_43 : decode cX3_slotOf 43 = .ok (.lcmp, 1) := dq daX3_slotOf_0 (i := 26) rfl
theorem dX3_slotOf_44 : decode cX3_slotOf 44 = .ok (.ifCond .ne 5, 3) := dq daX3_slotOf_0 (i := 27) rfl
theorem dX3_slotOf_47 : decode cX3_slotOf 47 = .ok (.iload_n 3, 1) := dq daX3_slotOf_0 (i := 28) rfl
theorem dX3_slotOf_48 : decode cX3_slotOf 48 = .ok (.ireturn, 1) := dq daX3_slotOf_0 (i := 29) rfl
theorem dX3_slotOf_49 : decode cX3_slotOf 49 = .ok (.iload_n 3, 1) := dq daX3_slotOf_0 (i := 30) rfl
theorem dX3_slotOf_50 : decode cX3_slotOf 50 = .ok (.iconst 1, 1) := dq daX3_slotOf_0 (i := 31) rfl
theorem dX3_slotOf_51 : decode cX3_slotOf 51 = .ok (.iadd, 1) := dq daX3_slotOf_0 (i := 32) rfl
theorem dX3_slotOf_52 : decode cX3_slotOf 52 = .ok (.sipush 1023, 3) := dq daX3_slotOf_0 (i := 33) rfl
theorem dX3_slotOf_55 : decode cX3_slotOf 55 = .ok (.iand, 1) := dq daX3_slotOf_0 (i := 34) rfl
theorem dX3_slotOf_56 : decode cX3_slotOf 56 = .ok (.istore_n 3, 1) := dq daX3_slotOf_0 (i := 35) rfl
theorem dX3_slotOf_57 : decode cX3_slotOf 57 = .ok (.iinc 4 1, 3) := dq daX3_slotOf_0 (i := 36) rfl
theorem dX3_slotOf_60 : decode cX3_slotOf 60 = .ok (.goto (-43), 3) := dq daX3_slotOf_0 (i := 37) rfl
theorem dX3_slotOf_63 : decode cX3_slotOf 63 = .ok (.iconst (-1), 1) := dq daX3_slotOf_0 (i := 38) rfl
theorem dX3_slotOf_64 : decode cX3_slotOf 64 = .ok (.ireturn, 1) := dq daX3_slotOf_0 (i := 39) rfl
theorem daX4_init_0 : dchk cX4_init [(0, .aload_n 0, 1), (1, .invokespecial 3, 3), (4, .aload_n 0, 1), (5, .new 9, 3), (8, .dup, 1), (9, .invokespecial 11, 3), (12, .putfield 12, 3), (15, .aload_n 0, 1), (16, .new 18, 3), (19, .dup, 1), (20, .invokespecial 20, 3), (23, .putfield 21, 3), (26, .aload_n 0, 1), (27, .bipush 6, 2), (29, .newarray .int, 2), (31, .putfield 25, 3), (34, .return_, 1)] = true := by decide +kernel
theorem dX4_init_0 : decode cX4_init 0 = .ok (.aload_n 0, 1) := dq daX4_init_0 (i := 0) rfl
theorem dX4_init_1 : decode cX4_init 1 = .ok (.invokespecial 3, 3) := dq daX4_init_0 (i := 1) rfl
theorem dX4_init_4 : decode cX4_init 4 = .ok (.aload_n 0, 1) := dq daX4_init_0 (i := 2) rfl
theorem dX4_init_5 : decode cX4_init 5 = .ok (.new 9, 3) := dq daX4_init_0 (i := 3) rfl
theorem dX4_init_8 : decode cX4_init 8 = .ok (.dup, 1) := dq daX4_init_0 (i := 4) rfl
theorem dX4_init_9 : decode cX4_init 9 = .ok (.invokespecial 11, 3) := dq daX4_init_0 (i := 5) rfl
theorem dX4_init_12 : decode cX4_init 12 = .ok (.putfield 12, 3) := dq daX4_init_0 (i := 6) rfl
theorem dX4_init_15 : decode cX4_init 15 = .ok (.aload_n 0, 1) := dq daX4_init_0 (i := 7) rfl
theorem dX4_init_16 : decode cX4_init 16 = .ok (.new 18, 3) := dq daX4_init_0 (i := 8) rfl
theorem dX4_init_19 : decode cX4_init 19 = .ok (.dup, 1) := dq daX4_init_0 (i := 9) rfl
theorem dX4_init_20 : decode cX4_init 20 = .ok (.invokespecial 20, 3) := dq daX4_init_0 (i := 10) rfl
theorem dX4_init_23 : decode cX4_init 23 = .ok (.putfield 21, 3) := dq daX4_init_0 (i := 11) rfl
theorem dX4_init_26 : decode cX4_init 26 = .ok (.aload_n 0, 1) := dq daX4_init_0 (i := 12) rfl
theorem dX4_init_27 : decode cX4_init 27 = .ok (.bipush 6, 2) := dq daX4_init_0 (i := 13) rfl
theorem dX4_init_29 : decode cX4_init 29 = .ok (.newarray .int, 2) := dq daX4_init_0 (i := 14) rfl
theorem dX4_init_31 : decode cX4_init 31 = .ok (.putfield 25, 3) := dq daX4_init_0 (i := 15) rfl
theorem dX4_init_34 : decode cX4_init 34 = .ok (.return_, 1) := dq daX4_init_0 (i := 16) rfl
theorem daX4_causeAt_0 : dchk cX4_causeAt [(0, .iconst 2, 1), (1, .iload_n 1, 1), (2, .imul, 1), (3, .iload_n 2, 1), (4, .iadd, 1), (5, .istore_n 3, 1), (6, .iload_n 3, 1), (7, .ifCond .lt 18, 3), (10, .iload_n 3, 1), (11, .bipush 6, 2), (13, .if_icmp .ge 12, 3), (16, .aload_n 0, 1), (17, .getfield 25, 3), (20, .iload_n 3, 1), (21, .iaload, 1), (22, .goto 4, 3), (25, .iconst (-1), 1), (26, .ireturn, 1)] = true := by decide +kernel
theorem dX4_causeAt_0 : decode cX4_causeAt 0 = .ok (.iconst 2, 1) := dq daX4_causeAt_0 (i := 0) rfl
theorem dX4_causeAt_1 : decode cX4_causeAt 1 = .ok (.iload_n 1, 1) := dq daX4_causeAt_0 (i := 1) rfl
theorem dX4_causeAt_2 : decode cX4_causeAt 2 = .ok (.imul, 1) := dq daX4_causeAt_0 (i := 2) rfl
theorem dX4_causeAt_3 : decode cX4_causeAt 3 = .ok (.iload_n 2, 1) := dq daX4_causeAt_0 (i := 3) rfl
theorem dX4_causeAt_4 : decode cX4_causeAt 4 = .ok (.iadd, 1) := dq daX4_causeAt_0 (i := 4) rfl
theorem dX4_causeAt_5 : decode cX4_causeAt 5 = .ok (.istore_n 3, 1) := dq daX4_causeAt_0 (i := 5) rfl
theorem dX4_causeAt_6 : decode cX4_causeAt 6 = .ok (.iload_n 3, 1) := dq daX4_causeAt_0 (i := 6) rfl
theorem dX4_causeAt_7 : decode cX4_causeAt 7 = .ok (.ifCond .lt 18, 3) := dq daX4_causeAt_0 (i := 7) rfl
theorem dX4_causeAt_10 : decode cX4_causeAt 10 = .ok (.iload_n 3, 1) := dq daX4_causeAt_0 (i := 8) rfl
theorem dX4_causeAt_11 : decode cX4_causeAt 11 = .ok (.bipush 6, 2) := dq daX4_causeAt_0 (i := 9) rfl
theorem dX4_causeAt_13 : decode cX4_causeAt 13 = .ok (.if_icmp .ge 12, 3) := dq daX4_causeAt_0 (i := 10) rfl
theorem dX4_causeAt_16 : decode cX4_causeAt 16 = .ok (.aload_n 0, 1) := dq daX4_causeAt_0 (i := 11) rfl
theorem dX4_causeAt_17 : decode cX4_causeAt 17 = .ok (.getfield 25, 3) := dq daX4_causeAt_0 (i := 12) rfl
theorem dX4_causeAt_20 : decode cX4_causeAt 20 = .ok (.iload_n 3, 1) := dq daX4_causeAt_0 (i := 13) rfl
theorem dX4_causeAt_21 : decode cX4_causeAt 21 = .ok (.iaload, 1) := dq daX4_causeAt_0 (i := 14) rfl
theorem dX4_causeAt_22 : decode cX4_causeAt 22 = .ok (.goto 4, 3) := dq daX4_causeAt_0 (i := 15) rfl
theorem dX4_causeAt_25 : decode cX4_causeAt 25 = .ok (.iconst (-1), 1) := dq daX4_causeAt_0 (i := 16) rfl
theorem dX4_causeAt_26 : decode cX4_causeAt 26 = .ok (.ireturn, 1) := dq daX4_causeAt_0 (i := 17) rfl
theorem daX4_readOver_0 : dchk cX4_readOver [(0, .aload_n 0, 1), (1, .getfield 21, 3), (4, .aload_n 1, 1), (5, .invokevirtual 29, 3), (8, .aload_n 0, 1), (9, .iconst 0, 1), (10, .putfield 33, 3), (13, .aload_n 0, 1), (14, .iconst (-1), 1), (15, .putfield 37, 3), (18, .aload_n 0, 1), (19, .invokevirtual 40, 3), (22, .ifCond .ne 22, 3), (25, .aload_n 0, 1), (26, .bipush 6, 2), (28, .aload_n 0, 1), (29, .getfield 33, 3), (32, .invokevirtual 44, 3), (35, .sipush (-1000), 3), (38, .aload_n 0, 1), (39, .getfield 33, 3), (42, .isub, 1), (43, .ireturn, 1), (44, .aload_n 0, 1), (45, .getfield 37, 3), (48, .iconst (-1), 1), (49, .if_icmp .eq 22, 3), (52, .aload_n 0, 1), (53, .bipush 7, 2), (55, .aload_n 0, 1), (56, .getfield 37, 3), (59, .invokevirtual 44, 3), (62, .sipush (-2000), 3), (65, .aload_n 0, 1), (66, .getfield 37, 3), (69, .isub, 1), (70, .ireturn, 1), (71, .aload_n 1, 1), (72, .aload_n 0, 1), (73, .getfield 21, 3)] = true := by decide +kernel
theorem dX4_readOver_0 : decode cX4_readOver 0 = .ok (.aload_n 0, 1) := dq daX4_readOver_0 (i := 0) rfl
theorem dX4_readOver_1 : decode cX4_readOver 1 = .ok (.getfield 21, 3) := dq daX4_readOver_0 (i := 1) rfl
theorem dX4_readOver_4 : decode cX4_readOver 4 = .ok (.aload_n 1, 1) := dq daX4_readOver_0 (i := 2) rfl
theorem dX4_readOver_5 : decode cX4_readOver 5 = .ok (.invokevirtual 29, 3) := dq daX4_readOver_0 (i := 3) rfl
theorem dX4_readOver_8 : decode cX4_readOver 8 = .ok (.aload_n 0, 1) := dq daX4_readOver_0 (i := 4) rfl
theorem dX4_readOver_9 : decode cX4_readOver 9 = .ok (.iconst 0, 1) := dq daX4_readOver_0 (i := 5) rfl
theorem dX4_readOver_10 : decode cX4_readOver 10 = .ok (.putfield 33, 3) := dq daX4_readOver_0 (i := 6) rfl
theorem dX4_readOver_13 : decode cX4_readOver 13 = .ok (.aload_n 0, 1) := dq daX4_readOver_0 (i := 7) rfl
theorem dX4_readOver_14 : decode cX4_readOver 14 = .ok (.iconst (-1), 1) := dq daX4_readOver_0 (i := 8) rfl
theorem dX4_readOver_15 : decode cX4_readOver 15 = .ok (.putfield 37, 3) := dq daX4_readOver_0 (i := 9) rfl
theorem dX4_readOver_18 : decode cX4_readOver 18 = .ok (.aload_n 0, 1) := dq daX4_readOver_0 (i := 10) rfl
theorem dX4_readOver_19 : decode cX4_readOver 19 = .ok (.invokevirtual 40, 3) := dq daX4_readOver_0 (i := 11) rfl
theorem dX4_readOver_22 : decode cX4_readOver 22 = .ok (.ifCond .ne 22, 3) := dq daX4_readOver_0 (i := 12) rfl
theorem dX4_readOver_25 : decode cX4_readOver 25 = .ok (.aload_n 0, 1) := dq daX4_readOver_0 (i := 13) rfl
theorem dX4_readOver_26 : decode cX4_readOver 26 = .ok (.bipush 6, 2) := dq daX4_readOver_0 (i := 14) rfl
theorem dX4_readOver_28 : decode cX4_readOver 28 = .ok (.aload_n 0, 1) := dq daX4_readOver_0 (i := 15) rfl
theorem dX4_readOver_29 : decode cX4_readOver 29 = .ok (.getfield 33, 3) := dq daX4_readOver_0 (i := 16) rfl
theorem dX4_readOver_32 : decode cX4_readOver 32 = .ok (.invokevirtual 44, 3) := dq daX4_readOver_0 (i := 17) rfl
theorem dX4_readOver_35 : decode cX4_readOver 35 = .ok (.sipush (-1000), 3) := dq daX4_readOver_0 (i := 18) rfl
theorem dX4_readOver_38 : decode cX4_readOver 38 = .ok (.aload_n 0, 1) := dq daX4_readOver_0 (i := 19) rfl
theorem dX4_readOver_39 : decode cX4_readOver 39 = .ok (.getfield 33, 3) := dq daX4_readOver_0 (i := 20) rfl
theorem dX4_readOver_42 : decode cX4_readOver 42 = .ok (.isub, 1) := dq daX4_readOver_0 (i := 21) rfl
theorem dX4_readOver_43 : decode cX4_readOver 43 = .ok (.ireturn, 1) := dq daX4_readOver_0 (i := 22) rfl
theorem dX4_readOver_44 : decode cX4_readOver 44 = .ok (.aload_n 0, 1) := dq daX4_readOver_0 (i := 23) rfl
theorem dX4_readOver_45 : decode cX4_readOver 45 = .ok (.getfield 37, 3) := dq daX4_readOver_0 (i := 24) rfl
theorem dX4_readOver_48 : decode cX4_readOver 48 = .ok (.iconst (-1), 1) := dq daX4_readOver_0 (i := 25) rfl
theorem dX4_readOver_49 : decode cX4_readOver 49 = .ok (.if_icmp .eq 22, 3) := dq daX4_readOver_0 (i := 26) rfl
theorem dX4_readOver_52 : decode cX4_readOver 52 = .ok (.aload_n 0, 1) := dq daX4_readOver_0 (i := 27) rfl
theorem dX4_readOver_53 : decode cX4_readOver 53 = .ok (.bipush 7, 2) := dq daX4_readOver_0 (i := 28) rfl
theorem dX4_readOver_55 : decode cX4_readOver 55 = .ok (.aload_n 0, 1) := dq daX4_readOver_0 (i := 29) rfl
theorem dX4_readOver_56 : decode cX4_readOver 56 = .ok (.getfield 37, 3) := dq daX4_readOver_0 (i := 30) rfl
theorem dX4_readOver_59 : decode cX4_readOver 59 = .ok (.invokevirtual 44, 3) := dq daX4_readOver_0 (i := 31) rfl
theorem dX4_readOver_62 : decode cX4_readOver 62 = .ok (.sipush (-2000), 3) := dq daX4_readOver_0 (i := 32) rfl
theorem dX4_readOver_65 : decode cX4_readOver 65 = .ok (.aload_n 0, 1) := dq daX4_readOver_0 (i := 33) rfl
theorem dX4_readOver_66 : decode cX4_readOver 66 = .ok (.getfield 37, 3) := dq daX4_readOver_0 (i := 34) rfl
theorem dX4_readOver_69 : decode cX4_readOver 69 = .ok (.isub, 1) := dq daX4_readOver_0 (i := 35) rfl
theorem dX4_readOver_70 : decode cX4_readOver 70 = .ok (.ireturn, 1) := dq daX4_readOver_0 (i := 36) rfl
theorem dX4_readOver_71 : decode cX4_readOver 71 = .ok (.aload_n 1, 1) := dq daX4_readOver_0 (i := 37) rfl
theorem dX4_readOver_72 : decode cX4_readOver 72 = .ok (.aload_n 0, 1) := dq daX4_readOver_0 (i := 38) rfl
theorem dX4_readOver_73 : decode cX4_readOver 73 = .ok (.getfield 21, 3) := dq daX4_readOver_0 (i := 39) rfl
theorem daX4_readOver_40 : dchk cX4_readOver [(76, .invokevirtual 29, 3), (79, .aload_n 1, 1), (80, .getfield 48, 3), (83, .ireturn, 1)] = true := by decide +kernel
theorem dX4_readOver_76 : decode cX4_readOver 76 = .ok (.invokevirtual 29, 3) := dq daX4_readOver_40 (i := 0) rfl
theorem dX4_readOver_79 : decode cX4_readOver 79 = .ok (.aload_n 1, 1) := dq daX4_readOver_40 (i := 1) rfl
theorem dX4_readOver_80 : decode cX4_readOver 80 = .ok (.getfield 48, 3) := dq daX4_readOver_40 (i := 2) rfl
theorem dX4_readOver_83 : decode cX4_readOver 83 = .ok (.ireturn, 1) := dq daX4_readOver_40 (i := 3) rfl
theorem daX4_readText_0 : dchk cX4_readText [(0, .aload_n 0, 1), (1, .invokevirtual 51, 3), (4, .ifCond .eq 19, 3), (7, .aload_n 0, 1), (8, .bipush 58, 2), (10, .invokevirtual 54, 3), (13, .ifCond .eq 10, 3), (16, .aload_n 0, 1), (17, .invokevirtual 58, 3), (20, .ifCond .ne 5, 3), (23, .iconst 0, 1), (24, .ireturn, 1), (25, .aload_n 0, 1), (26, .bipush 47, 2), (28, .invokevirtual 54, 3), (31, .ifCond .eq 19, 3), (34, .aload_n 0, 1), (35, .invokevirtual 61, 3), (38, .ifCond .eq 10, 3), (41, .aload_n 0, 1), (42, .invokevirtual 64, 3), (45, .ifCond .ne 5, 3), (48, .iconst 0, 1), (49, .ireturn, 1), (50, .aload_n 0, 1), (51, .getfield 33, 3), (54, .aload_n 0, 1), (55, .getfield 12, 3), (58, .getfield 67, 3), (61, .if_icmp .ne 7, 3), (64, .iconst 1, 1), (65, .goto 4, 3), (68, .iconst 0, 1), (69, .ireturn, 1)] = true := by decide +kernel
theorem dX4_readText_0 : decode cX4_readText 0 = .ok (.aload_n 0, 1) := dq daX4_readText_0 (i := 0) rfl
theorem dX4_readText_1 : decode cX4_readText 1 = .ok (.invokevirtual 51, 3) := dq daX4_readText_0 (i := 1) rfl
theorem dX4_readText_4 : decode cX4_readText 4 = .ok (.ifCond .eq 19, 3) := dq daX4_readText_0 (i := 2) rfl
theorem dX4_readText_7 : decode cX4_readText 7 = .ok (.aload_n 0, 1) := dq daX4_readText_0 (i := 3) rfl
theorem dX4_readText_8 : decode cX4_readText 8 = .ok (.bipush 58, 2) := dq daX4_readText_0 (i := 4) rfl
theorem dX4_readText_10 : decode cX4_readText 10 = .ok (.invokevirtual 54, 3) := dq daX4_readText_0 (i := 5) rfl
theorem dX4_readText_13 : decode cX4_readText 13 = .ok (.ifCond .eq 10, 3) := dq daX4_readText_0 (i := 6) rfl
theorem dX4_readText_16 : decode cX4_readText 16 = .ok (.aload_n 0, 1) := dq daX4_readText_0 (i := 7) rfl
theorem dX4_readText_17 : decode cX4_readText 17 = .ok (.invokevirtual 58, 3) := dq daX4_readText_0 (i := 8) rfl
theorem dX4_readText_20 : decode cX4_readText 20 = .ok (.ifCond .ne 5, 3) := dq daX4_readText_0 (i := 9) rfl
theorem dX4_readText_23 : decode cX4_readText 23 = .ok (.iconst 0, 1) := dq daX4_readText_0 (i := 10) rfl
theorem dX4_readText_24 : decode cX4_readText 24 = .ok (.ireturn, 1) := dq daX4_readText_0 (i := 11) rfl
theorem dX4_readText_25 : decode cX4_readText 25 = .ok (.aload_n 0, 1) := dq daX4_readText_0 (i := 12) rfl
theorem dX4_readText_26 : decode cX4_readText 26 = .ok (.bipush 47, 2) := dq daX4_readText_0 (i := 13) rfl
theorem dX4_readText_28 : decode cX4_readText 28 = .ok (.invokevirtual 54, 3) := dq daX4_readText_0 (i := 14) rfl
theorem dX4_readText_31 : decode cX4_readText 31 = .ok (.ifCond .eq 19, 3) := dq daX4_readText_0 (i := 15) rfl
theorem dX4_readText_34 : decode cX4_readText 34 = .ok (.aload_n 0, 1) := dq daX4_readText_0 (i := 16) rfl
theorem dX4_readText_35 : decode cX4_readText 35 = .ok (.invokevirtual 61, 3) := dq daX4_readText_0 (i := 17) rfl
theorem dX4_readText_38 : decode cX4_readText 38 = .ok (.ifCond .eq 10, 3) := dq daX4_readText_0 (i := 18) rfl
theorem dX4_readText_41 : decode cX4_readText 41 = .ok (.aload_n 0, 1) := dq daX4_readText_0 (i := 19) rfl
theorem dX4_readText_42 : decode cX4_readText 42 = .ok (.invokevirtual 64, 3) := dq daX4_readText_0 (i := 20) rfl
theorem dX4_readText_45 : decode cX4_readText 45 = .ok (.ifCond .ne 5, 3) := dq daX4_readText_0 (i := 21) rfl
theorem dX4_readText_48 : decode cX4_readText 48 = .ok (.iconst 0, 1) := dq daX4_readText_0 (i := 22) rfl
theorem dX4_readText_49 : decode cX4_readText 49 = .ok (.ireturn, 1) := dq daX4_readText_0 (i := 23) rfl
theorem dX4_readText_50 : decode cX4_readText 50 = .ok (.aload_n 0, 1) := dq daX4_readText_0 (i := 24) rfl
theorem dX4_readText_51 : decode cX4_readText 51 = .ok (.getfield 33, 3) := dq daX4_readText_0 (i := 25) rfl
theorem dX4_readText_54 : decode cX4_readText 54 = .ok (.aload_n 0, 1) := dq daX4_readText_0 (i := 26) rfl
theorem dX4_readText_55 : decode cX4_readText 55 = .ok (.getfield 12, 3) := dq daX4_readText_0 (i := 27) rfl
theorem dX4_readText_58 : decode cX4_readText 58 = .ok (.getfield 67, 3) := dq daX4_readText_0 (i := 28) rfl
theorem dX4_readText_61 : decode cX4_readText 61 = .ok (.if_icmp .ne 7, 3) := dq daX4_readText_0 (i := 29) rfl
theorem dX4_readText_64 : decode cX4_readText 64 = .ok (.iconst 1, 1) := dq daX4_readText_0 (i := 30) rfl
theorem dX4_readText_65 : decode cX4_readText 65 = .ok (.goto 4, 3) := dq daX4_readText_0 (i := 31) rfl
theorem dX4_readText_68 : decode cX4_readText 68 = .ok (.iconst 0, 1) := dq daX4_readText_0 (i := 32) rfl
theorem dX4_readText_69 : decode cX4_readText 69 = .ok (.ireturn, 1) := dq daX4_readText_0 (i := 33) rfl
theorem daX4_readSign_0 : dchk cX4_readSign [(0, .aload_n 0, 1), (1, .getfield 12, 3), (4, .aload_n 0, 1), (5, .getfield 33, 3), (8, .invokevirtual 68, 3), (11, .iload_n 1, 1), (12, .if_icmp .eq 5, 3), (15, .iconst 0, 1), (16, .ireturn, 1), (17, .aload_n 0, 1), (18, .dup, 1), (19, .getfield 33, 3), (22, .iconst 1, 1), (23, .iadd, 1), (24, .putfield 33, 3), (27, .iconst 1, 1), (28, .ireturn, 1)] = true := by decide +kernel
theorem dX4_readSign_0 : decode cX4_readSign 0 = .ok (.aload_n 0, 1) := dq daX4_readSign_0 (i := 0) rfl
theorem dX4_readSign_1 : decode cX4_readSign 1 = .ok (.getfield 12, 3) := dq daX4_readSign_0 (i := 1) rfl
theorem dX4_readSign_4 : decode cX4_readSign 4 = .ok (.aload_n 0, 1) := dq daX4_readSign_0 (i := 2) rfl
theorem dX4_readSign_5 : decode cX4_readSign 5 = .ok (.getfield 33, 3) := dq daX4_readSign_0 (i := 3) rfl
theorem dX4_readSign_8 : decode cX4_readSign 8 = .ok (.invokevirtual 68, 3) := dq daX4_readSign_0 (i := 4) rfl
theorem dX4_readSign_11 : decode cX4_readSign 11 = .ok (.iload_n 1, 1) := dq daX4_readSign_0 (i := 5) rfl
theorem dX4_readSign_12 : decode cX4_readSign 12 = .ok (.if_icmp .eq 5, 3) := dq daX4_readSign_0 (i := 6) rfl
theorem dX4_readSign_15 : decode cX4_readSign 15 = .ok (.iconst 0, 1) := dq daX4_readSign_0 (i := 7) rfl
theorem dX4_readSign_16 : decode cX4_readSign 16 = .ok (.ireturn, 1) := dq daX4_readSign_0 (i := 8) rfl
theorem dX4_readSign_17 : decode cX4_readSign 17 = .ok (.aload_n 0, 1) := dq daX4_readSign_0 (i := 9) rfl
theorem dX4_readSign_18 : decode cX4_readSign 18 = .ok (.dup, 1) := dq daX4_readSign_0 (i := 10) rfl
theorem dX4_readSign_19 : decode cX4_readSign 19 = .ok (.getfield 33, 3) := dq daX4_readSign_0 (i := 11) rfl
theorem dX4_readSign_22 : decode cX4_readSign 22 = .ok (.iconst 1, 1) := dq daX4_readSign_0 (i := 12) rfl
theorem dX4_readSign_23 : decode cX4_readSign 23 = .ok (.iadd, 1) := dq daX4_readSign_0 (i := 13) rfl
theorem dX4_readSign_24 : decode cX4_readSign 24 = .ok (.putfield 33, 3) := dq daX4_readSign_0 (i := 14) rfl
theorem dX4_readSign_27 : decode cX4_readSign 27 = .ok (.iconst 1, 1) := dq daX4_readSign_0 (i := 15) rfl
theorem dX4_readSign_28 : decode cX4_readSign 28 = .ok (.ireturn, 1) := dq daX4_readSign_0 (i := 16) rfl
theorem daX4_readGenus_0 : dchk cX4_readGenus [(0, .aload_n 0, 1), (1, .getfield 12, 3), (4, .aload_n 0, 1), (5, .getfield 33, 3), (8, .invokevirtual 72, 3), (11, .ifCond .ne 5, 3), (14, .iconst 0, 1), (15, .ireturn, 1), (16, .aload_n 0, 1), (17, .getfield 21, 3), (20, .aload_n 0, 1), (21, .getfield 12, 3), (24, .aload_n 0, 1), (25, .getfield 33, 3), (28, .invokevirtual 76, 3), (31, .putfield 79, 3), (34, .aload_n 0, 1), (35, .getfield 21, 3), (38, .getfield 79, 3), (41, .iconst 2, 1), (42, .if_icmp .le 11, 3), (45, .aload_n 0, 1), (46, .aload_n 0, 1), (47, .getfield 33, 3), (50, .invokevirtual 82, 3), (53, .aload_n 0, 1), (54, .dup, 1), (55, .getfield 33, 3), (58, .iconst 1, 1), (59, .iadd, 1), (60, .putfield 33, 3), (63, .iconst 1, 1), (64, .ireturn, 1)] = true := by decide +kernel
theorem dX4_readGenus_0 : decode cX4_readGenus 0 = .ok (.aload_n 0, 1) := dq daX4_readGenus_0 (i := 0) rfl
theorem dX4_readGenus_1 : decode cX4_readGenus 1 = .ok (.getfield 12, 3) := dq daX4_readGenus_0 (i := 1) rfl
theorem dX4_readGenus_4 : decode cX4_readGenus 4 = .ok (.aload_n 0, 1) := dq daX4_readGenus_0 (i := 2) rfl
theorem dX4_readGenus_5 : decode cX4_readGenus 5 = .ok (.getfield 33, 3) := dq daX4_readGenus_0 (i := 3) rfl
theorem dX4_readGenus_8 : decode cX4_readGenus 8 = .ok (.invokevirtual 72, 3) := dq daX4_readGenus_0 (i := 4) rfl
theorem dX4_readGenus_11 : decode cX4_readGenus 11 = .ok (.ifCond .ne 5, 3) := dq daX4_readGenus_0 (i := 5) rfl
theorem dX4_readGenus_14 : decode cX4_readGenus 14 = .ok (.iconst 0, 1) := dq daX4_readGenus_0 (i := 6) rfl
theorem dX4_readGenus_15 : decode cX4_readGenus 15 = .ok (.ireturn, 1) := dq daX4_readGenus_0 (i := 7) rfl
theorem dX4_readGenus_16 : decode cX4_readGenus 16 = .ok (.aload_n 0, 1) := dq daX4_readGenus_0 (i := 8) rfl
theorem dX4_readGenus_17 : decode cX4_readGenus 17 = .ok (.getfield 21, 3) := dq daX4_readGenus_0 (i := 9) rfl
theorem dX4_readGenus_20 : decode cX4_readGenus 20 = .ok (.aload_n 0, 1) := dq daX4_readGenus_0 (i := 10) rfl
theorem dX4_readGenus_21 : decode cX4_readGenus 21 = .ok (.getfield 12, 3) := dq daX4_readGenus_0 (i := 11) rfl
theorem dX4_readGenus_24 : decode cX4_readGenus 24 = .ok (.aload_n 0, 1) := dq daX4_readGenus_0 (i := 12) rfl
theorem dX4_readGenus_25 : decode cX4_readGenus 25 = .ok (.getfield 33, 3) := dq daX4_readGenus_0 (i := 13) rfl
theorem dX4_readGenus_28 : decode cX4_readGenus 28 = .ok (.invokevirtual 76, 3) := dq daX4_readGenus_0 (i := 14) rfl
theorem dX4_readGenus_31 : decode cX4_readGenus 31 = .ok (.putfield 79, 3) := dq daX4_readGenus_0 (i := 15) rfl
theorem dX4_readGenus_34 : decode cX4_readGenus 34 = .ok (.aload_n 0, 1) := dq daX4_readGenus_0 (i := 16) rfl
theorem dX4_readGenus_35 : decode cX4_readGenus 35 = .ok (.getfield 21, 3) := dq daX4_readGenus_0 (i := 17) rfl
theorem dX4_readGenus_38 : decode cX4_readGenus 38 = .ok (.getfield 79, 3) := dq daX4_readGenus_0 (i := 18) rfl
theorem dX4_readGenus_41 : decode cX4_readGenus 41 = .ok (.iconst 2, 1) := dq daX4_readGenus_0 (i := 19) rfl
theorem dX4_readGenus_42 : decode cX4_readGenus 42 = .ok (.if_icmp .le 11, 3) := dq daX4_readGenus_0 (i := 20) rfl
theorem dX4_readGenus_45 : decode cX4_readGenus 45 = .ok (.aload_n 0, 1) := dq daX4_readGenus_0 (i := 21) rfl
theorem dX4_readGenus_46 : decode cX4_readGenus 46 = .ok (.aload_n 0, 1) := dq daX4_readGenus_0 (i := 22) rfl
theorem dX4_readGenus_47 : decode cX4_readGenus 47 = .ok (.getfield 33, 3) := dq daX4_readGenus_0 (i := 23) rfl
theorem dX4_readGenus_50 : decode cX4_readGenus 50 = .ok (.invokevirtual 82, 3) := dq daX4_readGenus_0 (i := 24) rfl
theorem dX4_readGenus_53 : decode cX4_readGenus 53 = .ok (.aload_n 0, 1) := dq daX4_readGenus_0 (i := 25) rfl
theorem dX4_readGenus_54 : decode cX4_readGenus 54 = .ok (.dup, 1) := dq daX4_readGenus_0 (i := 26) rfl
theorem dX4_readGenus_55 : decode cX4_readGenus 55 = .ok (.getfield 33, 3) := dq daX4_readGenus_0 (i := 27) rfl
theorem dX4_readGenus_58 : decode cX4_readGenus 58 = .ok (.iconst 1, 1) := dq daX4_readGenus_0 (i := 28) rfl
theorem dX4_readGenus_59 : decode cX4_readGenus 59 = .ok (.iadd, 1) := dq daX4_readGenus_0 (i := 29) rfl
theorem dX4_readGenus_60 : decode cX4_readGenus 60 = .ok (.putfield 33, 3) := dq daX4_readGenus_0 (i := 30) rfl
theorem dX4_readGenus_63 : decode cX4_readGenus 63 = .ok (.iconst 1, 1) := dq daX4_readGenus_0 (i := 31) rfl
theorem dX4_readGenus_64 : decode cX4_readGenus 64 = .ok (.ireturn, 1) := dq daX4_readGenus_0 (i := 32) rfl
theorem daX4_readMarks_0 : dchk cX4_readMarks [(0, .aload_n 0, 1), (1, .getfield 21, 3), (4, .iconst 0, 1), (5, .putfield 48, 3), (8, .aload_n 0, 1), (9, .getfield 12, 3), (12, .aload_n 0, 1), (13, .getfield 33, 3), (16, .invokevirtual 72, 3), (19, .istore_n 1, 1), (20, .iconst 0, 1), (21, .istore_n 2, 1), (22, .iload_n 2, 1), (23, .bipush 8, 2), (25, .if_icmp .ge 54, 3), (28, .iload_n 1, 1), (29, .ifCond .eq 50, 3), (32, .aload_n 0, 1), (33, .getfield 12, 3), (36, .aload_n 0, 1), (37, .getfield 33, 3), (40, .invokevirtual 72, 3), (43, .ifCond .ne 5, 3), (46, .iconst 0, 1), (47, .ireturn, 1), (48, .aload_n 0, 1), (49, .invokevirtual 86, 3), (52, .iload_n 2, 1), (53, .bipush 7, 2), (55, .if_icmp .ge 16, 3), (58, .aload_n 0, 1), (59, .bipush 44, 2), (61, .invokevirtual 54, 3), (64, .ifCond .eq 7, 3), (67, .iconst 1, 1), (68, .goto 4, 3), (71, .iconst 0, 1), (72, .istore_n 1, 1), (73, .iinc 2 1, 3), (76, .goto (-54), 3)] = true := by decide +kernel
theorem dX4_readMarks_0 : decode cX4_readMarks 0 = .ok (.aload_n 0, 1) := dq daX4_readMarks_0 (i := 0) rfl
theorem dX4_readMarks_1 : decode cX4_readMarks 1 = .ok (.getfield 21, 3) := dq daX4_readMarks_0 (i := 1) rfl
theorem dX4_readMarks_4 : decode cX4_readMarks 4 = .ok (.iconst 0, 1) := dq daX4_readMarks_0 (i := 2) rfl
theorem dX4_readMarks_5 : decode cX4_readMarks 5 = .ok (.putfield 48, 3) := dq daX4_readMarks_0 (i := 3) rfl
theorem dX4_readMarks_8 : decode cX4_readMarks 8 = .ok (.aload_n 0, 1) := dq daX4_readMarks_0 (i := 4) rfl
theorem dX4_readMarks_9 : decode cX4_readMarks 9 = .ok (.getfield 12, 3) := dq daX4_readMarks_0 (i := 5) rfl
theorem dX4_readMarks_12 : decode cX4_readMarks 12 = .ok (.aload_n 0, 1) := dq daX4_readMarks_0 (i := 6) rfl
theorem dX4_readMarks_13 : decode cX4_readMarks 13 = .ok (.getfield 33, 3) := dq daX4_readMarks_0 (i := 7) rfl
theorem dX4_readMarks_16 : decode cX4_readMarks 16 = .ok (.invokevirtual 72, 3) := dq daX4_readMarks_0 (i := 8) rfl
theorem dX4_readMarks_19 : decode cX4_readMarks 19 = .ok (.istore_n 1, 1) := dq daX4_readMarks_0 (i := 9) rfl
theorem dX4_readMarks_20 : decode cX4_readMarks 20 = .ok (.iconst 0, 1) := dq daX4_readMarks_0 (i := 10) rfl
theorem dX4_readMarks_21 : decode cX4_readMarks 21 = .ok (.istore_n 2, 1) := dq daX4_readMarks_0 (i := 11) rfl
theorem dX4_readMarks_22 : decode cX4_readMarks 22 = .ok (.iload_n 2, 1) := dq daX4_readMarks_0 (i := 12) rfl
theorem dX4_readMarks_23 : decode cX4_readMarks 23 = .ok (.bipush 8, 2) := dq daX4_readMarks_0 (i := 13) rfl
theorem dX4_readMarks_25 : decode cX4_readMarks 25 = .ok (.if_icmp .ge 54, 3) := dq daX4_readMarks_0 (i := 14) rfl
theorem dX4_readMarks_28 : decode cX4_readMarks 28 = .ok (.iload_n 1, 1) := dq daX4_readMarks_0 (i := 15) rfl
theorem dX4_readMarks_29 : decode cX4_readMarks 29 = .ok (.ifCond .eq 50, 3) := dq daX4_readMarks_0 (i := 16) rfl
theorem dX4_readMarks_32 : decode cX4_readMarks 32 = .ok (.aload_n 0, 1) := dq daX4_readMarks_0 (i := 17) rfl
theorem dX4_readMarks_33 : decode cX4_readMarks 33 = .ok (.getfield 12, 3) := dq daX4_readMarks_0 (i := 18) rfl
theorem dX4_readMarks_36 : decode cX4_readMarks 36 = .ok (.aload_n 0, 1) := dq daX4_readMarks_0 (i := 19) rfl
theorem dX4_readMarks_37 : decode cX4_readMarks 37 = .ok (.getfield 33, 3) := dq daX4_readMarks_0 (i := 20) rfl
theorem dX4_readMarks_40 : decode cX4_readMarks 40 = .ok (.invokevirtual 72, 3) := dq daX4_readMarks_0 (i := 21) rfl
theorem dX4_readMarks_43 : decode cX4_readMarks 43 = .ok (.ifCond .ne 5, 3) := dq daX4_readMarks_0 (i := 22) rfl
theorem dX4_readMarks_46 : decode cX4_readMarks 46 = .ok (.iconst 0, 1) := dq daX4_readMarks_0 (i := 23) rfl
theorem dX4_readMarks_47 : decode cX4_readMarks 47 = .ok (.ireturn, 1) := dq daX4_readMarks_0 (i := 24) rfl
theorem dX4_readMarks_48 : decode cX4_readMarks 48 = .ok (.aload_n 0, 1) := dq daX4_readMarks_0 (i := 25) rfl
theorem dX4_readMarks_49 : decode cX4_readMarks 49 = .ok (.invokevirtual 86, 3) := dq daX4_readMarks_0 (i := 26) rfl
theorem dX4_readMarks_52 : decode cX4_readMarks 52 = .ok (.iload_n 2, 1) := dq daX4_readMarks_0 (i := 27) rfl
theorem dX4_readMarks_53 : decode cX4_readMarks 53 = .ok (.bipush 7, 2) := dq daX4_readMarks_0 (i := 28) rfl
theorem dX4_readMarks_55 : decode cX4_readMarks 55 = .ok (.if_icmp .ge 16, 3) := dq daX4_readMarks_0 (i := 29) rfl
theorem dX4_readMarks_58 : decode cX4_readMarks 58 = .ok (.aload_n 0, 1) := dq daX4_readMarks_0 (i := 30) rfl
theorem dX4_readMarks_59 : decode cX4_readMarks 59 = .ok (.bipush 44, 2) := dq daX4_readMarks_0 (i := 31) rfl
theorem dX4_readMarks_61 : decode cX4_readMarks 61 = .ok (.invokevirtual 54, 3) := dq daX4_readMarks_0 (i := 32) rfl
theorem dX4_readMarks_64 : decode cX4_readMarks 64 = .ok (.ifCond .eq 7, 3) := dq daX4_readMarks_0 (i := 33) rfl
theorem dX4_readMarks_67 : decode cX4_readMarks 67 = .ok (.iconst 1, 1) := dq daX4_readMarks_0 (i := 34) rfl
theorem dX4_readMarks_68 : decode cX4_readMarks 68 = .ok (.goto 4, 3) := dq daX4_readMarks_0 (i := 35) rfl
theorem dX4_readMarks_71 : decode cX4_readMarks 71 = .ok (.iconst 0, 1) := dq daX4_readMarks_0 (i := 36) rfl
theorem dX4_readMarks_72 : decode cX4_readMarks 72 = .ok (.istore_n 1, 1) := dq daX4_readMarks_0 (i := 37) rfl
theorem dX4_readMarks_73 : decode cX4_readMarks 73 = .ok (.iinc 2 1, 3) := dq daX4_readMarks_0 (i := 38) rfl
theorem dX4_readMarks_76 : decode cX4_readMarks 76 = .ok (.goto (-54), 3) := dq daX4_readMarks_0 (i := 39) rfl
theorem daX4_readMarks_40 : dchk cX4_readMarks [(79, .iconst 1, 1), (80, .ireturn, 1)] = true := by decide +kernel
theorem dX4_readMarks_79 : decode cX4_readMarks 79 = .ok (.iconst 1, 1) := dq daX4_readMarks_40 (i := 0) rfl
theorem dX4_readMarks_80 : decode cX4_readMarks 80 = .ok (.ireturn, 1) := dq daX4_readMarks_40 (i := 1) rfl
theorem daX4_readPower_0 : dchk cX4_readPower [(0, .aload_n 0, 1), (1, .getfield 33, 3), (4, .istore_n 1, 1), (5, .aload_n 0, 1), (6, .getfield 12, 3), (9, .aload_n 0, 1), (10, .getfield 33, 3), (13, .invokevirtual 76, 3), (16, .istore_n 2, 1), (17, .aload_n 0, 1), (18, .dup, 1), (19, .getfield 33, 3), (22, .iconst 1, 1), (23, .iadd, 1), (24, .putfield 33, 3), (27, .aload_n 0, 1), (28, .getfield 12, 3), (31, .aload_n 0, 1), (32, .getfield 33, 3), (35, .invokevirtual 72, 3), (38, .ifCond .eq 30, 3), (41, .bipush 10, 2), (43, .iload_n 2, 1), (44, .imul, 1), (45, .aload_n 0, 1), (46, .getfield 12, 3), (49, .aload_n 0, 1), (50, .getfield 33, 3), (53, .invokevirtual 76, 3), (56, .iadd, 1), (57, .istore_n 2, 1), (58, .aload_n 0, 1), (59, .dup, 1), (60, .getfield 33, 3), (63, .iconst 1, 1), (64, .iadd, 1), (65, .putfield 33, 3), (68, .iload_n 2, 1), (69, .bipush 12, 2), (71, .if_icmp .le 8, 3)] = true := by decide +kernel
theorem dX4_readPower_0 : decode cX4_readPower 0 = .ok (.aload_n 0, 1) := dq daX4_readPower_0 (i := 0) rfl
theorem dX4_readPower_1 : decode cX4_readPower 1 = .ok (.getfield 33, 3) := dq daX4_readPower_0 (i := 1) rfl
theorem dX4_readPower_4 : decode cX4_readPower 4 = .ok (.istore_n 1, 1) := dq daX4_readPower_0 (i := 2) rfl
theorem dX4_readPower_5 : decode cX4_readPower 5 = .ok (.aload_n 0, 1) := dq daX4_readPower_0 (i := 3) rfl
theorem dX4_readPower_6 : decode cX4_readPower 6 = .ok (.getfield 12, 3) := dq daX4_readPower_0 (i := 4) rfl
theorem dX4_readPower_9 : decode cX4_readPower 9 = .ok (.aload_n 0, 1) := dq daX4_readPower_0 (i := 5) rfl
theorem dX4_readPower_10 : decode cX4_readPower 10 = .ok (.getfield 33, 3) := dq daX4_readPower_0 (i := 6) rfl
theorem dX4_readPower_13 : decode cX4_readPower 13 = .ok (.invokevirtual 76, 3) := dq daX4_readPower_0 (i := 7) rfl
theorem dX4_readPower_16 : decode cX4_readPower 16 = .ok (.istore_n 2, 1) := dq daX4_readPower_0 (i := 8) rfl
theorem dX4_readPower_17 : decode cX4_readPower 17 = .ok (.aload_n 0, 1) := dq daX4_readPower_0 (i := 9) rfl
theorem dX4_readPower_18 : decode cX4_readPower 18 = .ok (.dup, 1) := dq daX4_readPower_0 (i := 10) rfl
theorem dX4_readPower_19 : decode cX4_readPower 19 = .ok (.getfield 33, 3) := dq daX4_readPower_0 (i := 11) rfl
theorem dX4_readPower_22 : decode cX4_readPower 22 = .ok (.iconst 1, 1) := dq daX4_readPower_0 (i := 12) rfl
theorem dX4_readPower_23 : decode cX4_readPower 23 = .ok (.iadd, 1) := dq daX4_readPower_0 (i := 13) rfl
theorem dX4_readPower_24 : decode cX4_readPower 24 = .ok (.putfield 33, 3) := dq daX4_readPower_0 (i := 14) rfl
theorem dX4_readPower_27 : decode cX4_readPower 27 = .ok (.aload_n 0, 1) := dq daX4_readPower_0 (i := 15) rfl
theorem dX4_readPower_28 : decode cX4_readPower 28 = .ok (.getfield 12, 3) := dq daX4_readPower_0 (i := 16) rfl
theorem dX4_readPower_31 : decode cX4_readPower 31 = .ok (.aload_n 0, 1) := dq daX4_readPower_0 (i := 17) rfl
theorem dX4_readPower_32 : decode cX4_readPower 32 = .ok (.getfield 33, 3) := dq daX4_readPower_0 (i := 18) rfl
theorem dX4_readPower_35 : decode cX4_readPower 35 = .ok (.invokevirtual 72, 3) := dq daX4_readPower_0 (i := 19) rfl
theorem dX4_readPower_38 : decode cX4_readPower 38 = .ok (.ifCond .eq 30, 3) := dq daX4_readPower_0 (i := 20) rfl
theorem dX4_readPower_41 : decode cX4_readPower 41 = .ok (.bipush 10, 2) := dq daX4_readPower_0 (i := 21) rfl
theorem dX4_readPower_43 : decode cX4_readPower 43 = .ok (.iload_n 2, 1) := dq daX4_readPower_0 (i := 22) rfl
theorem dX4_readPower_44 : decode cX4_readPower 44 = .ok (.imul, 1) := dq daX4_readPower_0 (i := 23) rfl
theorem dX4_readPower_45 : decode cX4_readPower 45 = .ok (.aload_n 0, 1) := dq daX4_readPower_0 (i := 24) rfl
theorem dX4_readPower_46 : decode cX4_readPower 46 = .ok (.getfield 12, 3) := dq daX4_readPower_0 (i := 25) rfl
theorem dX4_readPower_49 : decode cX4_readPower 49 = .ok (.aload_n 0, 1) := dq daX4_readPower_0 (i := 26) rfl
theorem dX4_readPower_50 : decode cX4_readPower 50 = .ok (.getfield 33, 3) := dq daX4_readPower_0 (i := 27) rfl
theorem dX4_readPower_53 : decode cX4_readPower 53 = .ok (.invokevirtual 76, 3) := dq daX4_readPower_0 (i := 28) rfl
theorem dX4_readPower_56 : decode cX4_readPower 56 = .ok (.iadd, 1) := dq daX4_readPower_0 (i := 29) rfl
theorem dX4_readPower_57 : decode cX4_readPower 57 = .ok (.istore_n 2, 1) := dq daX4_readPower_0 (i := 30) rfl
theorem dX4_readPower_58 : decode cX4_readPower 58 = .ok (.aload_n 0, 1) := dq daX4_readPower_0 (i := 31) rfl
theorem dX4_readPower_59 : decode cX4_readPower 59 = .ok (.dup, 1) := dq daX4_readPower_0 (i := 32) rfl
theorem dX4_readPower_60 : decode cX4_readPower 60 = .ok (.getfield 33, 3) := dq daX4_readPower_0 (i := 33) rfl
theorem dX4_readPower_63 : decode cX4_readPower 63 = .ok (.iconst 1, 1) := dq daX4_readPower_0 (i := 34) rfl
theorem dX4_readPower_64 : decode cX4_readPower 64 = .ok (.iadd, 1) := dq daX4_readPower_0 (i := 35) rfl
theorem dX4_readPower_65 : decode cX4_readPower 65 = .ok (.putfield 33, 3) := dq daX4_readPower_0 (i := 36) rfl
theorem dX4_readPower_68 : decode cX4_readPower 68 = .ok (.iload_n 2, 1) := dq daX4_readPower_0 (i := 37) rfl
theorem dX4_readPower_69 : decode cX4_readPower 69 = .ok (.bipush 12, 2) := dq daX4_readPower_0 (i := 38) rfl
theorem dX4_readPower_71 : decode cX4_readPower 71 = .ok (.if_icmp .le 8, 3) := dq daX4_readPower_0 (i := 39) rfl
theorem daX4_readPower_40 : dchk cX4_readPower [(74, .aload_n 0, 1), (75, .iload_n 1, 1), (76, .invokevirtual 82, 3), (79, .aload_n 0, 1), (80, .getfield 21, 3), (83, .iload_n 2, 1), (84, .invokevirtual 89, 3), (87, .return_, 1)] = true := by decide +kernel
theorem dX4_readPower_74 : decode cX4_readPower 74 = .ok (.aload_n 0, 1) := dq daX4_readPower_40 (i := 0) rfl
theorem dX4_readPower_75 : decode cX4_readPower 75 = .ok (.iload_n 1, 1) := dq daX4_readPower_40 (i := 1) rfl
theorem dX4_readPower_76 : decode cX4_readPower 76 = .ok (.invokevirtual 82, 3) := dq daX4_readPower_40 (i := 2) rfl
theorem dX4_readPower_79 : decode cX4_readPower 79 = .ok (.aload_n 0, 1) := dq daX4_readPower_40 (i := 3) rfl
theorem dX4_readPower_80 : decode cX4_readPower 80 = .ok (.getfield 21, 3) := dq daX4_readPower_40 (i := 4) rfl
theorem dX4_readPower_83 : decode cX4_readPower 83 = .ok (.iload_n 2, 1) := dq daX4_readPower_40 (i := 5) rfl
theorem dX4_readPower_84 : decode cX4_readPower 84 = .ok (.invokevirtual 89, 3) := dq daX4_readPower_40 (i := 6) rfl
theorem dX4_readPower_87 : decode cX4_readPower 87 = .ok (.return_, 1) := dq daX4_readPower_40 (i := 7) rfl
theorem daX4_readLeafCount_0 : dchk cX4_readLeafCount [(0, .aload_n 0, 1), (1, .getfield 12, 3), (4, .aload_n 0, 1), (5, .getfield 33, 3), (8, .invokevirtual 72, 3), (11, .ifCond .ne 5, 3), (14, .iconst 0, 1), (15, .ireturn, 1), (16, .aload_n 0, 1), (17, .getfield 21, 3), (20, .aload_n 0, 1), (21, .getfield 12, 3), (24, .aload_n 0, 1), (25, .getfield 33, 3), (28, .invokevirtual 76, 3), (31, .putfield 92, 3), (34, .aload_n 0, 1), (35, .getfield 21, 3), (38, .lconst 0, 1), (39, .putfield 95, 3), (42, .aload_n 0, 1), (43, .getfield 21, 3), (46, .getfield 92, 3), (49, .invokestatic 99, 3), (52, .ifCond .ne 11, 3), (55, .aload_n 0, 1), (56, .aload_n 0, 1), (57, .getfield 33, 3), (60, .invokevirtual 82, 3), (63, .aload_n 0, 1), (64, .dup, 1), (65, .getfield 33, 3), (68, .iconst 1, 1), (69, .iadd, 1), (70, .putfield 33, 3), (73, .iconst 1, 1), (74, .ireturn, 1)] = true := by decide +kernel
theorem dX4_readLeafCount_0 : decode cX4_readLeafCount 0 = .ok (.aload_n 0, 1) := dq daX4_readLeafCount_0 (i := 0) rfl
theorem dX4_readLeafCount_1 : decode cX4_readLeafCount 1 = .ok (.getfield 12, 3) := dq daX4_readLeafCount_0 (i := 1) rfl
theorem dX4_readLeafCount_4 : decode cX4_readLeafCount 4 = .ok (.aload_n 0, 1) := dq daX4_readLeafCount_0 (i := 2) rfl
theorem dX4_readLeafCount_5 : decode cX4_readLeafCount 5 = .ok (.getfield 33, 3) := dq daX4_readLeafCount_0 (i := 3) rfl
theorem dX4_readLeafCount_8 : decode cX4_readLeafCount 8 = .ok (.invokevirtual 72, 3) := dq daX4_readLeafCount_0 (i := 4) rfl
theorem dX4_readLeafCount_11 : decode cX4_readLeafCount 11 = .ok (.ifCond .ne 5, 3) := dq daX4_readLeafCount_0 (i := 5) rfl
theorem dX4_readLeafCount_14 : decode cX4_readLeafCount 14 = .ok (.iconst 0, 1) := dq daX4_readLeafCount_0 (i := 6) rfl
theorem dX4_readLeafCount_15 : decode cX4_readLeafCount 15 = .ok (.ireturn, 1) := dq daX4_readLeafCount_0 (i := 7) rfl
theorem dX4_readLeafCount_16 : decode cX4_readLeafCount 16 = .ok (.aload_n 0, 1) := dq daX4_readLeafCount_0 (i := 8) rfl
theorem dX4_readLeafCount_17 : decode cX4_readLeafCount 17 = .ok (.getfield 21, 3) := dq daX4_readLeafCount_0 (i := 9) rfl
theorem dX4_readLeafCount_20 : decode cX4_readLeafCount 20 = .ok (.aload_n 0, 1) := dq daX4_readLeafCount_0 (i := 10) rfl
theorem dX4_readLeafCount_21 : decode cX4_readLeafCount 21 = .ok (.getfield 12, 3) := dq daX4_readLeafCount_0 (i := 11) rfl
theorem dX4_readLeafCount_24 : decode cX4_readLeafCount 24 = .ok (.aload_n 0, 1) := dq daX4_readLeafCount_0 (i := 12) rfl
theorem dX4_readLeafCount_25 : decode cX4_readLeafCount 25 = .ok (.getfield 33, 3) := dq daX4_readLeafCount_0 (i := 13) rfl
theorem dX4_readLeafCount_28 : decode cX4_readLeafCount 28 = .ok (.invokevirtual 76, 3) := dq daX4_readLeafCount_0 (i := 14) rfl
theorem dX4_readLeafCount_31 : decode cX4_readLeafCount 31 = .ok (.putfield 92, 3) := dq daX4_readLeafCount_0 (i := 15) rfl
theorem dX4_readLeafCount_34 : decode cX4_readLeafCount 34 = .ok (.aload_n 0, 1) := dq daX4_readLeafCount_0 (i := 16) rfl
theorem dX4_readLeafCount_35 : decode cX4_readLeafCount 35 = .ok (.getfield 21, 3) := dq daX4_readLeafCount_0 (i := 17) rfl
theorem dX4_readLeafCount_38 : decode cX4_readLeafCount 38 = .ok (.lconst 0, 1) := dq daX4_readLeafCount_0 (i := 18) rfl
theorem dX4_readLeafCount_39 : decode cX4_readLeafCount 39 = .ok (.putfield 95, 3) := dq daX4_readLeafCount_0 (i := 19) rfl
theorem dX4_readLeafCount_42 : decode cX4_readLeafCount 42 = .ok (.aload_n 0, 1) := dq daX4_readLeafCount_0 (i := 20) rfl
theorem dX4_readLeafCount_43 : decode cX4_readLeafCount 43 = .ok (.getfield 21, 3) := dq daX4_readLeafCount_0 (i := 21) rfl
theorem dX4_readLeafCount_46 : decode cX4_readLeafCount 46 = .ok (.getfield 92, 3) := dq daX4_readLeafCount_0 (i := 22) rfl
theorem dX4_readLeafCount_49 : decode cX4_readLeafCount 49 = .ok (.invokestatic 99, 3) := dq daX4_readLeafCount_0 (i := 23) rfl
theorem dX4_readLeafCount_52 : decode cX4_readLeafCount 52 = .ok (.ifCond .ne 11, 3) := dq daX4_readLeafCount_0 (i := 24) rfl
theorem dX4_readLeafCount_55 : decode cX4_readLeafCount 55 = .ok (.aload_n 0, 1) := dq daX4_readLeafCount_0 (i := 25) rfl
theorem dX4_readLeafCount_56 : decode cX4_readLeafCount 56 = .ok (.aload_n 0, 1) := dq daX4_readLeafCount_0 (i := 26) rfl
theorem dX4_readLeafCount_57 : decode cX4_readLeafCount 57 = .ok (.getfield 33, 3) := dq daX4_readLeafCount_0 (i := 27) rfl
theorem dX4_readLeafCount_60 : decode cX4_readLeafCount 60 = .ok (.invokevirtual 82, 3) := dq daX4_readLeafCount_0 (i := 28) rfl
theorem dX4_readLeafCount_63 : decode cX4_readLeafCount 63 = .ok (.aload_n 0, 1) := dq daX4_readLeafCount_0 (i := 29) rfl
theorem dX4_readLeafCount_64 : decode cX4_readLeafCount 64 = .ok (.dup, 1) := dq daX4_readLeafCount_0 (i := 30) rfl
theorem dX4_readLeafCount_65 : decode cX4_readLeafCount 65 = .ok (.getfield 33, 3) := dq daX4_readLeafCount_0 (i := 31) rfl
theorem dX4_readLeafCount_68 : decode cX4_readLeafCount 68 = .ok (.iconst 1, 1) := dq daX4_readLeafCount_0 (i := 32) rfl
theorem dX4_readLeafCount_69 : decode cX4_readLeafCount 69 = .ok (.iadd, 1) := dq daX4_readLeafCount_0 (i := 33) rfl
theorem dX4_readLeafCount_70 : decode cX4_readLeafCount 70 = .ok (.putfield 33, 3) := dq daX4_readLeafCount_0 (i := 34) rfl
theorem dX4_readLeafCount_73 : decode cX4_readLeafCount 73 = .ok (.iconst 1, 1) := dq daX4_readLeafCount_0 (i := 35) rfl
theorem dX4_readLeafCount_74 : decode cX4_readLeafCount 74 = .ok (.ireturn, 1) := dq daX4_readLeafCount_0 (i := 36) rfl
theorem daX4_readSplits_0 : dchk cX4_readSplits [(0, .iconst 0, 1), (1, .istore_n 1, 1), (2, .iload_n 1, 1), (3, .iconst 3, 1), (4, .if_icmp .ge 27, 3), (7, .aload_n 0, 1), (8, .bipush 59, 2), (10, .invokevirtual 54, 3), (13, .ifCond .eq 18, 3), (16, .aload_n 0, 1), (17, .invokevirtual 104, 3), (20, .ifCond .ne 5, 3), (23, .iconst 0, 1), (24, .ireturn, 1), (25, .iinc 1 1, 3), (28, .goto (-26), 3), (31, .iconst 1, 1), (32, .ireturn, 1)] = true := by decide +kernel
theorem dX4_readSplits_0 : decode cX4_readSplits 0 = .ok (.iconst 0, 1) := dq daX4_readSplits_0 (i := 0) rfl
theorem dX4_readSplits_1 : decode cX4_readSplits 1 = .ok (.istore_n 1, 1) := dq daX4_readSplits_0 (i := 1) rfl
theorem dX4_readSplits_2 : decode cX4_readSplits 2 = .ok (.iload_n 1, 1) := dq daX4_readSplits_0 (i := 2) rfl
theorem dX4_readSplits_3 : decode cX4_readSplits 3 = .ok (.iconst 3, 1) := dq daX4_readSplits_0 (i := 3) rfl
theorem dX4_readSplits_4 : decode cX4_readSplits 4 = .ok (.if_icmp .ge 27, 3) := dq daX4_readSplits_0 (i := 4) rfl
theorem dX4_readSplits_7 : decode cX4_readSplits 7 = .ok (.aload_n 0, 1) := dq daX4_readSplits_0 (i := 5) rfl
theorem dX4_readSplits_8 : decode cX4_readSplits 8 = .ok (.bipush 59, 2) := dq daX4_readSplits_0 (i := 6) rfl
theorem dX4_readSplits_10 : decode cX4_readSplits 10 = .ok (.invokevirtual 54, 3) := dq daX4_readSplits_0 (i := 7) rfl
theorem dX4_readSplits_13 : decode cX4_readSplits 13 = .ok (.ifCond .eq 18, 3) := dq daX4_readSplits_0 (i := 8) rfl
theorem dX4_readSplits_16 : decode cX4_readSplits 16 = .ok (.aload_n 0, 1) := dq daX4_readSplits_0 (i := 9) rfl
theorem dX4_readSplits_17 : decode cX4_readSplits 17 = .ok (.invokevirtual 104, 3) := dq daX4_readSplits_0 (i := 10) rfl
theorem dX4_readSplits_20 : decode cX4_readSplits 20 = .ok (.ifCond .ne 5, 3) := dq daX4_readSplits_0 (i := 11) rfl
theorem dX4_readSplits_23 : decode cX4_readSplits 23 = .ok (.iconst 0, 1) := dq daX4_readSplits_0 (i := 12) rfl
theorem dX4_readSplits_24 : decode cX4_readSplits 24 = .ok (.ireturn, 1) := dq daX4_readSplits_0 (i := 13) rfl
theorem dX4_readSplits_25 : decode cX4_readSplits 25 = .ok (.iinc 1 1, 3) := dq daX4_readSplits_0 (i := 14) rfl
theorem dX4_readSplits_28 : decode cX4_readSplits 28 = .ok (.goto (-26), 3) := dq daX4_readSplits_0 (i := 15) rfl
theorem dX4_readSplits_31 : decode cX4_readSplits 31 = .ok (.iconst 1, 1) := dq daX4_readSplits_0 (i := 16) rfl
theorem dX4_readSplits_32 : decode cX4_readSplits 32 = .ok (.ireturn, 1) := dq daX4_readSplits_0 (i := 17) rfl
theorem daX4_readSplit_0 : dchk cX4_readSplit [(0, .aload_n 0, 1), (1, .getfield 33, 3), (4, .istore_n 1, 1), (5, .iconst (-1), 1), (6, .istore_n 2, 1), (7, .iconst 0, 1), (8, .istore_n 3, 1), (9, .iconst 0, 1), (10, .istore 4, 2), (12, .iload 4, 2), (14, .iconst 4, 1), (15, .if_icmp .ge 69, 3), (18, .aload_n 0, 1), (19, .getfield 12, 3), (22, .aload_n 0, 1), (23, .getfield 33, 3), (26, .invokevirtual 72, 3), (29, .ifCond .eq 55, 3), (32, .aload_n 0, 1), (33, .getfield 12, 3), (36, .aload_n 0, 1), (37, .getfield 33, 3), (40, .invokevirtual 76, 3), (43, .iload_n 2, 1), (44, .if_icmp .gt 6, 3), (47, .goto 37, 3), (50, .aload_n 0, 1), (51, .getfield 12, 3), (54, .aload_n 0, 1), (55, .getfield 33, 3), (58, .invokevirtual 76, 3), (61, .istore_n 2, 1), (62, .iload_n 3, 1), (63, .iconst 1, 1), (64, .iload_n 2, 1), (65, .ishl, 1), (66, .ior, 1), (67, .istore_n 3, 1), (68, .aload_n 0, 1), (69, .dup, 1)] = true := by decide +kernel
theorem dX4_readSplit_0 : decode cX4_readSplit 0 = .ok (.aload_n 0, 1) := dq daX4_readSplit_0 (i := 0) rfl
theorem dX4_readSplit_1 : decode cX4_readSplit 1 = .ok (.getfield 33, 3) := dq daX4_readSplit_0 (i := 1) rfl
theorem dX4_readSplit_4 : decode cX4_readSplit 4 = .ok (.istore_n 1, 1) := dq daX4_readSplit_0 (i := 2) rfl
theorem dX4_readSplit_5 : decode cX4_readSplit 5 = .ok (.iconst (-1), 1) := dq daX4_readSplit_0 (i := 3) rfl
theorem dX4_readSplit_6 : decode cX4_readSplit 6 = .ok (.istore_n 2, 1) := dq daX4_readSplit_0 (i := 4) rfl
theorem dX4_readSplit_7 : decode cX4_readSplit 7 = .ok (.iconst 0, 1) := dq daX4_readSplit_0 (i := 5) rfl
theorem dX4_readSplit_8 : decode cX4_readSplit 8 = .ok (.istore_n 3, 1) := dq daX4_readSplit_0 (i := 6) rfl
theorem dX4_readSplit_9 : decode cX4_readSplit 9 = .ok (.iconst 0, 1) := dq daX4_readSplit_0 (i := 7) rfl
theorem dX4_readSplit_10 : decode cX4_readSplit 10 = .ok (.istore 4, 2) := dq daX4_readSplit_0 (i := 8) rfl
theorem dX4_readSplit_12 : decode cX4_readSplit 12 = .ok (.iload 4, 2) := dq daX4_readSplit_0 (i := 9) rfl
theorem dX4_readSplit_14 : decode cX4_readSplit 14 = .ok (.iconst 4, 1) := dq daX4_readSplit_0 (i := 10) rfl
theorem dX4_readSplit_15 : decode cX4_readSplit 15 = .ok (.if_icmp .ge 69, 3) := dq daX4_readSplit_0 (i := 11) rfl
theorem dX4_readSplit_18 : decode cX4_readSplit 18 = .ok (.aload_n 0, 1) := dq daX4_readSplit_0 (i := 12) rfl
theorem dX4_readSplit_19 : decode cX4_readSplit 19 = .ok (.getfield 12, 3) := dq daX4_readSplit_0 (i := 13) rfl
theorem dX4_readSplit_22 : decode cX4_readSplit 22 = .ok (.aload_n 0, 1) := dq daX4_readSplit_0 (i := 14) rfl
theorem dX4_readSplit_23 : decode cX4_readSplit 23 = .ok (.getfield 33, 3) := dq daX4_readSplit_0 (i := 15) rfl
theorem dX4_readSplit_26 : decode cX4_readSplit 26 = .ok (.invokevirtual 72, 3) := dq daX4_readSplit_0 (i := 16) rfl
theorem dX4_readSplit_29 : decode cX4_readSplit 29 = .ok (.ifCond .eq 55, 3) := dq daX4_readSplit_0 (i := 17) rfl
theorem dX4_readSplit_32 : decode cX4_readSplit 32 = .ok (.aload_n 0, 1) := dq daX4_readSplit_0 (i := 18) rfl
theorem dX4_readSplit_33 : decode cX4_readSplit 33 = .ok (.getfield 12, 3) := dq daX4_readSplit_0 (i := 19) rfl
theorem dX4_readSplit_36 : decode cX4_readSplit 36 = .ok (.aload_n 0, 1) := dq daX4_readSplit_0 (i := 20) rfl
theorem dX4_readSplit_37 : decode cX4_readSplit 37 = .ok (.getfield 33, 3) := dq daX4_readSplit_0 (i := 21) rfl
theorem dX4_readSplit_40 : decode cX4_readSplit 40 = .ok (.invokevirtual 76, 3) := dq daX4_readSplit_0 (i := 22) rfl
theorem dX4_readSplit_43 : decode cX4_readSplit 43 = .ok (.iload_n 2, 1) := dq daX4_readSplit_0 (i := 23) rfl
theorem dX4_readSplit_44 : decode cX4_readSplit 44 = .ok (.if_icmp .gt 6, 3) := dq daX4_readSplit_0 (i := 24) rfl
theorem dX4_readSplit_47 : decode cX4_readSplit 47 = .ok (.goto 37, 3) := dq daX4_readSplit_0 (i := 25) rfl
theorem dX4_readSplit_50 : decode cX4_readSplit 50 = .ok (.aload_n 0, 1) := dq daX4_readSplit_0 (i := 26) rfl
theorem dX4_readSplit_51 : decode cX4_readSplit 51 = .ok (.getfield 12, 3) := dq daX4_readSplit_0 (i := 27) rfl
theorem dX4_readSplit_54 : decode cX4_readSplit 54 = .ok (.aload_n 0, 1) := dq daX4_readSplit_0 (i := 28) rfl
theorem dX4_readSplit_55 : decode cX4_readSplit 55 = .ok (.getfield 33, 3) := dq daX4_readSplit_0 (i := 29) rfl
theorem dX4_readSplit_58 : decode cX4_readSplit 58 = .ok (.invokevirtual 76, 3) := dq daX4_readSplit_0 (i := 30) rfl
theorem dX4_readSplit_61 : decode cX4_readSplit 61 = .ok (.istore_n 2, 1) := dq daX4_readSplit_0 (i := 31) rfl
theorem dX4_readSplit_62 : decode cX4_readSplit 62 = .ok (.iload_n 3, 1) := dq daX4_readSplit_0 (i := 32) rfl
theorem dX4_readSplit_63 : decode cX4_readSplit 63 = .ok (.iconst 1, 1) := dq daX4_readSplit_0 (i := 33) rfl
theorem dX4_readSplit_64 : decode cX4_readSplit 64 = .ok (.iload_n 2, 1) := dq daX4_readSplit_0 (i := 34) rfl
theorem dX4_readSplit_65 : decode cX4_readSplit 65 = .ok (.ishl, 1) := dq daX4_readSplit_0 (i := 35) rfl
theorem dX4_readSplit_66 : decode cX4_readSplit 66 = .ok (.ior, 1) := dq daX4_readSplit_0 (i := 36) rfl
theorem dX4_readSplit_67 : decode cX4_readSplit 67 = .ok (.istore_n 3, 1) := dq daX4_readSplit_0 (i := 37) rfl
theorem dX4_readSplit_68 : decode cX4_readSplit 68 = .ok (.aload_n 0, 1) := dq daX4_readSplit_0 (i := 38) rfl
theorem dX4_readSplit_69 : decode cX4_readSplit 69 = .ok (.dup, 1) := dq daX4_readSplit_0 (i := 39) rfl
theorem daX4_readSplit_40 : dchk cX4_readSplit [(70, .getfield 33, 3), (73, .iconst 1, 1), (74, .iadd, 1), (75, .putfield 33, 3), (78, .iinc 4 1, 3), (81, .goto (-69), 3), (84, .aload_n 0, 1), (85, .getfield 33, 3), (88, .iload_n 1, 1), (89, .isub, 1), (90, .iconst 2, 1), (91, .if_icmp .ge 5, 3), (94, .iconst 0, 1), (95, .ireturn, 1), (96, .iload_n 3, 1), (97, .aload_n 0, 1), (98, .getfield 21, 3), (101, .getfield 92, 3), (104, .invokestatic 107, 3), (107, .ifCond .eq 38, 3), (110, .aload_n 0, 1), (111, .getfield 21, 3), (114, .getfield 95, 3), (117, .iload_n 3, 1), (118, .invokestatic 111, 3), (121, .ifCond .eq 24, 3), (124, .aload_n 0, 1), (125, .getfield 21, 3), (128, .aload_n 0, 1), (129, .getfield 21, 3), (132, .getfield 95, 3), (135, .iload_n 3, 1), (136, .invokestatic 115, 3), (139, .putfield 95, 3), (142, .goto 8, 3), (145, .aload_n 0, 1), (146, .iload_n 1, 1), (147, .invokevirtual 82, 3), (150, .iconst 1, 1), (151, .ireturn, 1)] = true := by decide +kernel
theorem dX4_readSplit_70 : decode cX4_readSplit 70 = .ok (.getfield 33, 3) := dq daX4_readSplit_40 (i := 0) rfl
theorem dX4_readSplit_73 : decode cX4_readSplit 73 = .ok (.iconst 1, 1) := dq daX4_readSplit_40 (i := 1) rfl
theorem dX4_readSplit_74 : decode cX4_readSplit 74 = .ok (.iadd, 1) := dq daX4_readSplit_40 (i := 2) rfl
theorem dX4_readSplit_75 : decode cX4_readSplit 75 = .ok (.putfield 33, 3) := dq daX4_readSplit_40 (i := 3) rfl
theorem dX4_readSplit_78 : decode cX4_readSplit 78 = .ok (.iinc 4 1, 3) := dq daX4_readSplit_40 (i := 4) rfl
theorem dX4_readSplit_81 : decode cX4_readSplit 81 = .ok (.goto (-69), 3) := dq daX4_readSplit_40 (i := 5) rfl
theorem dX4_readSplit_84 : decode cX4_readSplit 84 = .ok (.aload_n 0, 1) := dq daX4_readSplit_40 (i := 6) rfl
theorem dX4_readSplit_85 : decode cX4_readSplit 85 = .ok (.getfield 33, 3) := dq daX4_readSplit_40 (i := 7) rfl
theorem dX4_readSplit_88 : decode cX4_readSplit 88 = .ok (.iload_n 1, 1) := dq daX4_readSplit_40 (i := 8) rfl
theorem dX4_readSplit_89 : decode cX4_readSplit 89 = .ok (.isub, 1) := dq daX4_readSplit_40 (i := 9) rfl
theorem dX4_readSplit_90 : decode cX4_readSplit 90 = .ok (.iconst 2, 1) := dq daX4_readSplit_40 (i := 10) rfl
theorem dX4_readSplit_91 : decode cX4_readSplit 91 = .ok (.if_icmp .ge 5, 3) := dq daX4_readSplit_40 (i := 11) rfl
theorem dX4_readSplit_94 : decode cX4_readSplit 94 = .ok (.iconst 0, 1) := dq daX4_readSplit_40 (i := 12) rfl
theorem dX4_readSplit_95 : decode cX4_readSplit 95 = .ok (.ireturn, 1) := dq daX4_readSplit_40 (i := 13) rfl
theorem dX4_readSplit_96 : decode cX4_readSplit 96 = .ok (.iload_n 3, 1) := dq daX4_readSplit_40 (i := 14) rfl
theorem dX4_readSplit_97 : decode cX4_readSplit 97 = .ok (.aload_n 0, 1) := dq daX4_readSplit_40 (i := 15) rfl
theorem dX4_readSplit_98 : decode cX4_readSplit 98 = .ok (.getfield 21, 3) := dq daX4_readSplit_40 (i := 16) rfl
theorem dX4_readSplit_101 : decode cX4_readSplit 101 = .ok (.getfield 92, 3) := dq daX4_readSplit_40 (i := 17) rfl
theorem dX4_readSplit_104 : decode cX4_readSplit 104 = .ok (.invokestatic 107, 3) := dq daX4_readSplit_40 (i := 18) rfl
theorem dX4_readSplit_107 : decode cX4_readSplit 107 = .ok (.ifCond .eq 38, 3) := dq daX4_readSplit_40 (i := 19) rfl
theorem dX4_readSplit_110 : decode cX4_readSplit 110 = .ok (.aload_n 0, 1) := dq daX4_readSplit_40 (i := 20) rfl
theorem dX4_readSplit_111 : decode cX4_readSplit 111 = .ok (.getfield 21, 3) := dq daX4_readSplit_40 (i := 21) rfl
theorem dX4_readSplit_114 : decode cX4_readSplit 114 = .ok (.getfield 95, 3) := dq daX4_readSplit_40 (i := 22) rfl
theorem dX4_readSplit_117 : decode cX4_readSplit 117 = .ok (.iload_n 3, 1) := dq daX4_readSplit_40 (i := 23) rfl
theorem dX4_readSplit_118 : decode cX4_readSplit 118 = .ok (.invokestatic 111, 3) := dq daX4_readSplit_40 (i := 24) rfl
theorem dX4_readSplit_121 : decode cX4_readSplit 121 = .ok (.ifCond .eq 24, 3) := dq daX4_readSplit_40 (i := 25) rfl
theorem dX4_readSplit_124 : decode cX4_readSplit 124 = .ok (.aload_n 0, 1) := dq daX4_readSplit_40 (i := 26) rfl
theorem dX4_readSplit_125 : decode cX4_readSplit 125 = .ok (.getfield 21, 3) := dq daX4_readSplit_40 (i := 27) rfl
theorem dX4_readSplit_128 : decode cX4_readSplit 128 = .ok (.aload_n 0, 1) := dq daX4_readSplit_40 (i := 28) rfl
theorem dX4_readSplit_129 : decode cX4_readSplit 129 = .ok (.getfield 21, 3) := dq daX4_readSplit_40 (i := 29) rfl
theorem dX4_readSplit_132 : decode cX4_readSplit 132 = .ok (.getfield 95, 3) := dq daX4_readSplit_40 (i := 30) rfl
theorem dX4_readSplit_135 : decode cX4_readSplit 135 = .ok (.iload_n 3, 1) := dq daX4_readSplit_40 (i := 31) rfl
theorem dX4_readSplit_136 : decode cX4_readSplit 136 = .ok (.invokestatic 115, 3) := dq daX4_readSplit_40 (i := 32) rfl
theorem dX4_readSplit_139 : decode cX4_readSplit 139 = .ok (.putfield 95, 3) := dq daX4_readSplit_40 (i := 33) rfl
theorem dX4_readSplit_142 : decode cX4_readSplit 142 = .ok (.goto 8, 3) := dq daX4_readSplit_40 (i := 34) rfl
theorem dX4_readSplit_145 : decode cX4_readSplit 145 = .ok (.aload_n 0, 1) := dq daX4_readSplit_40 (i := 35) rfl
theorem dX4_readSplit_146 : decode cX4_readSplit 146 = .ok (.iload_n 1, 1) := dq daX4_readSplit_40 (i := 36) rfl
theorem dX4_readSplit_147 : decode cX4_readSplit 147 = .ok (.invokevirtual 82, 3) := dq daX4_readSplit_40 (i := 37) rfl
theorem dX4_readSplit_150 : decode cX4_readSplit 150 = .ok (.iconst 1, 1) := dq daX4_readSplit_40 (i := 38) rfl
theorem dX4_readSplit_151 : decode cX4_readSplit 151 = .ok (.ireturn, 1) := dq daX4_readSplit_40 (i := 39) rfl
theorem daX4_noteCannotBe_0 : dchk cX4_noteCannotBe [(0, .aload_n 0, 1), (1, .getfield 37, 3), (4, .iconst (-1), 1), (5, .if_icmp .ne 8, 3), (8, .aload_n 0, 1), (9, .iload_n 1, 1), (10, .putfield 37, 3), (13, .return_, 1)] = true := by decide +kernel
theorem dX4_noteCannotBe_0 : decode cX4_noteCannotBe 0 = .ok (.aload_n 0, 1) := dq daX4_noteCannotBe_0 (i := 0) rfl
theorem dX4_noteCannotBe_1 : decode cX4_noteCannotBe 1 = .ok (.getfield 37, 3) := dq daX4_noteCannotBe_0 (i := 1) rfl
theorem dX4_noteCannotBe_4 : decode cX4_noteCannotBe 4 = .ok (.iconst (-1), 1) := dq daX4_noteCannotBe_0 (i := 2) rfl
theorem dX4_noteCannotBe_5 : decode cX4_noteCannotBe 5 = .ok (.if_icmp .ne 8, 3) := dq daX4_noteCannotBe_0 (i := 3) rfl
theorem dX4_noteCannotBe_8 : decode cX4_noteCannotBe 8 = .ok (.aload_n 0, 1) := dq daX4_noteCannotBe_0 (i := 4) rfl
theorem dX4_noteCannotBe_9 : decode cX4_noteCannotBe 9 = .ok (.iload_n 1, 1) := dq daX4_noteCannotBe_0 (i := 5) rfl
theorem dX4_noteCannotBe_10 : decode cX4_noteCannotBe 10 = .ok (.putfield 37, 3) := dq daX4_noteCannotBe_0 (i := 6) rfl
theorem dX4_noteCannotBe_13 : decode cX4_noteCannotBe 13 = .ok (.return_, 1) := dq daX4_noteCannotBe_0 (i := 7) rfl
theorem daX4_keepWhy_0 : dchk cX4_keepWhy [(0, .aload_n 0, 1), (1, .iconst 1, 1), (2, .putfield 119, 3), (5, .aload_n 0, 1), (6, .getfield 25, 3), (9, .iconst 0, 1), (10, .iconst 1, 1), (11, .iastore, 1), (12, .aload_n 0, 1), (13, .getfield 25, 3), (16, .iconst 1, 1), (17, .aload_n 0, 1), (18, .getfield 12, 3), (21, .getfield 67, 3), (24, .iastore, 1), (25, .aload_n 0, 1), (26, .getfield 25, 3), (29, .iconst 2, 1), (30, .aload_n 0, 1), (31, .iload_n 2, 1), (32, .invokevirtual 123, 3), (35, .iastore, 1), (36, .aload_n 0, 1), (37, .getfield 25, 3), (40, .iconst 3, 1), (41, .aload_n 0, 1), (42, .aload_n 0, 1), (43, .getfield 25, 3), (46, .iconst 2, 1), (47, .iaload, 1), (48, .iload_n 2, 1), (49, .invokevirtual 126, 3), (52, .iastore, 1), (53, .aload_n 0, 1), (54, .getfield 25, 3), (57, .iconst 4, 1), (58, .iload_n 1, 1), (59, .iastore, 1), (60, .aload_n 0, 1), (61, .getfield 25, 3)] = true := by decide +kernel
theorem dX4_keepWhy_0 : decode cX4_keepWhy 0 = .ok (.aload_n 0, 1) := dq daX4_keepWhy_0 (i := 0) rfl
theorem dX4_keepWhy_1 : decode cX4_keepWhy 1 = .ok (.iconst 1, 1) := dq daX4_keepWhy_0 (i := 1) rfl
theorem dX4_keepWhy_2 : decode cX4_keepWhy 2 = .ok (.putfield 119, 3) := dq daX4_keepWhy_0 (i := 2) rfl
theorem dX4_keepWhy_5 : decode cX4_keepWhy 5 = .ok (.aload_n 0, 1) := dq daX4_keepWhy_0 (i := 3) rfl
theorem dX4_keepWhy_6 : decode cX4_keepWhy 6 = .ok (.getfield 25, 3) := dq daX4_keepWhy_0 (i := 4) rfl
theorem dX4_keepWhy_9 : decode cX4_keepWhy 9 = .ok (.iconst 0, 1) := dq daX4_keepWhy_0 (i := 5) rfl
theorem dX4_keepWhy_10 : decode cX4_keepWhy 10 = .ok (.iconst 1, 1) := dq daX4_keepWhy_0 (i := 6) rfl
theorem dX4_keepWhy_11 : decode cX4_keepWhy 11 = .ok (.iastore, 1) := dq daX4_keepWhy_0 (i := 7) rfl
theorem dX4_keepWhy_12 : decode cX4_keepWhy 12 = .ok (.aload_n 0, 1) := dq daX4_keepWhy_0 (i := 8) rfl
theorem dX4_keepWhy_13 : decode cX4_keepWhy 13 = .ok (.getfield 25, 3) := dq daX4_keepWhy_0 (i := 9) rfl
theorem dX4_keepWhy_16 : decode cX4_keepWhy 16 = .ok (.iconst 1, 1) := dq daX4_keepWhy_0 (i := 10) rfl
theorem dX4_keepWhy_17 : decode cX4_keepWhy 17 = .ok (.aload_n 0, 1) := dq daX4_keepWhy_0 (i := 11) rfl
theorem dX4_keepWhy_18 : decode cX4_keepWhy 18 = .ok (.getfield 12, 3) := dq daX4_keepWhy_0 (i := 12) rfl
theorem dX4_keepWhy_21 : decode cX4_keepWhy 21 = .ok (.getfield 67, 3) := dq daX4_keepWhy_0 (i := 13) rfl
theorem dX4_keepWhy_24 : decode cX4_keepWhy 24 = .ok (.iastore, 1) := dq daX4_keepWhy_0 (i := 14) rfl
theorem dX4_keepWhy_25 : decode cX4_keepWhy 25 = .ok (.aload_n 0, 1) := dq daX4_keepWhy_0 (i := 15) rfl
theorem dX4_keepWhy_26 : decode cX4_keepWhy 26 = .ok (.getfield 25, 3) := dq daX4_keepWhy_0 (i := 16) rfl
theorem dX4_keepWhy_29 : decode cX4_keepWhy 29 = .ok (.iconst 2, 1) := dq daX4_keepWhy_0 (i := 17) rfl
theorem dX4_keepWhy_30 : decode cX4_keepWhy 30 = .ok (.aload_n 0, 1) := dq daX4_keepWhy_0 (i := 18) rfl
theorem dX4_keepWhy_31 : decode cX4_keepWhy 31 = .ok (.iload_n 2, 1) := dq daX4_keepWhy_0 (i := 19) rfl
theorem dX4_keepWhy_32 : decode cX4_keepWhy 32 = .ok (.invokevirtual 123, 3) := dq daX4_keepWhy_0 (i := 20) rfl
theorem dX4_keepWhy_35 : decode cX4_keepWhy 35 = .ok (.iastore, 1) := dq daX4_keepWhy_0 (i := 21) rfl
theorem dX4_keepWhy_36 : decode cX4_keepWhy 36 = .ok (.aload_n 0, 1) := dq daX4_keepWhy_0 (i := 22) rfl
theorem dX4_keepWhy_37 : decode cX4_keepWhy 37 = .ok (.getfield 25, 3) := dq daX4_keepWhy_0 (i := 23) rfl
theorem dX4_keepWhy_40 : decode cX4_keepWhy 40 = .ok (.iconst 3, 1) := dq daX4_keepWhy_0 (i := 24) rfl
theorem dX4_keepWhy_41 : decode cX4_keepWhy 41 = .ok (.aload_n 0, 1) := dq daX4_keepWhy_0 (i := 25) rfl
theorem dX4_keepWhy_42 : decode cX4_keepWhy 42 = .ok (.aload_n 0, 1) := dq daX4_keepWhy_0 (i := 26) rfl
theorem dX4_keepWhy_43 : decode cX4_keepWhy 43 = .ok (.getfield 25, 3) := dq daX4_keepWhy_0 (i := 27) rfl
theorem dX4_keepWhy_46 : decode cX4_keepWhy 46 = .ok (.iconst 2, 1) := dq daX4_keepWhy_0 (i := 28) rfl
theorem dX4_keepWhy_47 : decode cX4_keepWhy 47 = .ok (.iaload, 1) := dq daX4_keepWhy_0 (i := 29) rfl
theorem dX4_keepWhy_48 : decode cX4_keepWhy 48 = .ok (.iload_n 2, 1) := dq daX4_keepWhy_0 (i := 30) rfl
theorem dX4_keepWhy_49 : decode cX4_keepWhy 49 = .ok (.invokevirtual 126, 3) := dq daX4_keepWhy_0 (i := 31) rfl
theorem dX4_keepWhy_52 : decode cX4_keepWhy 52 = .ok (.iastore, 1) := dq daX4_keepWhy_0 (i := 32) rfl
theorem dX4_keepWhy_53 : decode cX4_keepWhy 53 = .ok (.aload_n 0, 1) := dq daX4_keepWhy_0 (i := 33) rfl
theorem dX4_keepWhy_54 : decode cX4_keepWhy 54 = .ok (.getfield 25, 3) := dq daX4_keepWhy_0 (i := 34) rfl
theorem dX4_keepWhy_57 : decode cX4_keepWhy 57 = .ok (.iconst 4, 1) := dq daX4_keepWhy_0 (i := 35) rfl
theorem dX4_keepWhy_58 : decode cX4_keepWhy 58 = .ok (.iload_n 1, 1) := dq daX4_keepWhy_0 (i := 36) rfl
theorem dX4_keepWhy_59 : decode cX4_keepWhy 59 = .ok (.iastore, 1) := dq daX4_keepWhy_0 (i := 37) rfl
theorem dX4_keepWhy_60 : decode cX4_keepWhy 60 = .ok (.aload_n 0, 1) := dq daX4_keepWhy_0 (i := 38) rfl
theorem dX4_keepWhy_61 : decode cX4_keepWhy 61 = .ok (.getfield 25, 3) := dq daX4_keepWhy_0 (i := 39) rfl
theorem daX4_keepWhy_40 : dchk cX4_keepWhy [(64, .iconst 5, 1), (65, .iload_n 2, 1), (66, .iastore, 1), (67, .return_, 1)] = true := by decide +kernel
theorem dX4_keepWhy_64 : decode cX4_keepWhy 64 = .ok (.iconst 5, 1) := dq daX4_keepWhy_40 (i := 0) rfl
theorem dX4_keepWhy_65 : decode cX4_keepWhy 65 = .ok (.iload_n 2, 1) := dq daX4_keepWhy_40 (i := 1) rfl
theorem dX4_keepWhy_66 : decode cX4_keepWhy 66 = .ok (.iastore, 1) := dq daX4_keepWhy_40 (i := 2) rfl
theorem dX4_keepWhy_67 : decode cX4_keepWhy 67 = .ok (.return_, 1) := dq daX4_keepWhy_40 (i := 3) rfl
theorem daX4_sortOf_0 : dchk cX4_sortOf [(0, .iload_n 1, 1), (1, .ifCond .ne 5, 3), (4, .iconst 2, 1), (5, .ireturn, 1), (6, .aload_n 0, 1), (7, .getfield 12, 3), (10, .bipush 47, 2), (12, .iload_n 1, 1), (13, .invokevirtual 130, 3), (16, .istore_n 2, 1), (17, .iload_n 2, 1), (18, .iconst (-1), 1), (19, .if_icmp .ne 5, 3), (22, .iconst 3, 1), (23, .ireturn, 1), (24, .iload_n 1, 1), (25, .iload_n 2, 1), (26, .iconst 1, 1), (27, .iadd, 1), (28, .if_icmp .ne 7, 3), (31, .iconst 4, 1), (32, .goto 4, 3), (35, .iconst 5, 1), (36, .ireturn, 1)] = true := by decide +kernel
theorem dX4_sortOf_0 : decode cX4_sortOf 0 = .ok (.iload_n 1, 1) := dq daX4_sortOf_0 (i := 0) rfl
theorem dX4_sortOf_1 : decode cX4_sortOf 1 = .ok (.ifCond .ne 5, 3) := dq daX4_sortOf_0 (i := 1) rfl
theorem dX4_sortOf_4 : decode cX4_sortOf 4 = .ok (.iconst 2, 1) := dq daX4_sortOf_0 (i := 2) rfl
theorem dX4_sortOf_5 : decode cX4_sortOf 5 = .ok (.ireturn, 1) := dq daX4_sortOf_0 (i := 3) rfl
theorem dX4_sortOf_6 : decode cX4_sortOf 6 = .ok (.aload_n 0, 1) := dq daX4_sortOf_0 (i := 4) rfl
theorem dX4_sortOf_7 : decode cX4_sortOf 7 = .ok (.getfield 12, 3) := dq daX4_sortOf_0 (i := 5) rfl
theorem dX4_sortOf_10 : decode cX4_sortOf 10 = .ok (.bipush 47, 2) := dq daX4_sortOf_0 (i := 6) rfl
theorem dX4_sortOf_12 : decode cX4_sortOf 12 = .ok (.iload_n 1, 1) := dq daX4_sortOf_0 (i := 7) rfl
theorem dX4_sortOf_13 : decode cX4_sortOf 13 = .ok (.invokevirtual 130, 3) := dq daX4_sortOf_0 (i := 8) rfl
theorem dX4_sortOf_16 : decode cX4_sortOf 16 = .ok (.istore_n 2, 1) := dq daX4_sortOf_0 (i := 9) rfl
theorem dX4_sortOf_17 : decode cX4_sortOf 17 = .ok (.iload_n 2, 1) := dq daX4_sortOf_0 (i := 10) rfl
theorem dX4_sortOf_18 : decode cX4_sortOf 18 = .ok (.iconst (-1), 1) := dq daX4_sortOf_0 (i := 11) rfl
theorem dX4_sortOf_19 : decode cX4_sortOf 19 = .ok (.if_icmp .ne 5, 3) := dq daX4_sortOf_0 (i := 12) rfl
theorem dX4_sortOf_22 : decode cX4_sortOf 22 = .ok (.iconst 3, 1) := dq daX4_sortOf_0 (i := 13) rfl
theorem dX4_sortOf_23 : decode cX4_sortOf 23 = .ok (.ireturn, 1) := dq daX4_sortOf_0 (i := 14) rfl
theorem dX4_sortOf_24 : decode cX4_sortOf 24 = .ok (.iload_n 1, 1) := dq daX4_sortOf_0 (i := 15) rfl
theorem dX4_sortOf_25 : decode cX4_sortOf 25 = .ok (.iload_n 2, 1) := dq daX4_sortOf_0 (i := 16) rfl
theorem dX4_sortOf_26 : decode cX4_sortOf 26 = .ok (.iconst 1, 1) := dq daX4_sortOf_0 (i := 17) rfl
theorem dX4_sortOf_27 : decode cX4_sortOf 27 = .ok (.iadd, 1) := dq daX4_sortOf_0 (i := 18) rfl
theorem dX4_sortOf_28 : decode cX4_sortOf 28 = .ok (.if_icmp .ne 7, 3) := dq daX4_sortOf_0 (i := 19) rfl
theorem dX4_sortOf_31 : decode cX4_sortOf 31 = .ok (.iconst 4, 1) := dq daX4_sortOf_0 (i := 20) rfl
theorem dX4_sortOf_32 : decode cX4_sortOf 32 = .ok (.goto 4, 3) := dq daX4_sortOf_0 (i := 21) rfl
theorem dX4_sortOf_35 : decode cX4_sortOf 35 = .ok (.iconst 5, 1) := dq daX4_sortOf_0 (i := 22) rfl
theorem dX4_sortOf_36 : decode cX4_sortOf 36 = .ok (.ireturn, 1) := dq daX4_sortOf_0 (i := 23) rfl
theorem daX4_signsAhead_0 : dchk cX4_signsAhead [(0, .iload_n 1, 1), (1, .iconst 3, 1), (2, .if_icmp .ne 14, 3), (5, .aload_n 0, 1), (6, .getfield 12, 3), (9, .bipush 44, 2), (11, .iload_n 2, 1), (12, .invokevirtual 134, 3), (15, .ireturn, 1), (16, .iload_n 1, 1), (17, .iconst 5, 1), (18, .if_icmp .ne 16, 3), (21, .aload_n 0, 1), (22, .getfield 12, 3), (25, .bipush 59, 2), (27, .iload_n 2, 1), (28, .invokevirtual 134, 3), (31, .goto 4, 3), (34, .iconst 0, 1), (35, .ireturn, 1)] = true := by decide +kernel
theorem dX4_signsAhead_0 : decode cX4_signsAhead 0 = .ok (.iload_n 1, 1) := dq daX4_signsAhead_0 (i := 0) rfl
theorem dX4_signsAhead_1 : decode cX4_signsAhead 1 = .ok (.iconst 3, 1) := dq daX4_signsAhead_0 (i := 1) rfl
theorem dX4_signsAhead_2 : decode cX4_signsAhead 2 = .ok (.if_icmp .ne 14, 3) := dq daX4_signsAhead_0 (i := 2) rfl
theorem dX4_signsAhead_5 : decode cX4_signsAhead 5 = .ok (.aload_n 0, 1) := dq daX4_signsAhead_0 (i := 3) rfl
theorem dX4_signsAhead_6 : decode cX4_signsAhead 6 = .ok (.getfield 12, 3) := dq daX4_signsAhead_0 (i := 4) rfl
theorem dX4_signsAhead_9 : decode cX4_signsAhead 9 = .ok (.bipush 44, 2) := dq daX4_signsAhead_0 (i := 5) rfl
theorem dX4_signsAhead_11 : decode cX4_signsAhead 11 = .ok (.iload_n 2, 1) := dq daX4_signsAhead_0 (i := 6) rfl
theorem dX4_signsAhead_12 : decode cX4_signsAhead 12 = .ok (.invokevirtual 134, 3) := dq daX4_signsAhead_0 (i := 7) rfl
theorem dX4_signsAhead_15 : decode cX4_signsAhead 15 = .ok (.ireturn, 1) := dq daX4_signsAhead_0 (i := 8) rfl
theorem dX4_signsAhead_16 : decode cX4_signsAhead 16 = .ok (.iload_n 1, 1) := dq daX4_signsAhead_0 (i := 9) rfl
theorem dX4_signsAhead_17 : decode cX4_signsAhead 17 = .ok (.iconst 5, 1) := dq daX4_signsAhead_0 (i := 10) rfl
theorem dX4_signsAhead_18 : decode cX4_signsAhead 18 = .ok (.if_icmp .ne 16, 3) := dq daX4_signsAhead_0 (i := 11) rfl
theorem dX4_signsAhead_21 : decode cX4_signsAhead 21 = .ok (.aload_n 0, 1) := dq daX4_signsAhead_0 (i := 12) rfl
theorem dX4_signsAhead_22 : decode cX4_signsAhead 22 = .ok (.getfield 12, 3) := dq daX4_signsAhead_0 (i := 13) rfl
theorem dX4_signsAhead_25 : decode cX4_signsAhead 25 = .ok (.bipush 59, 2) := dq daX4_signsAhead_0 (i := 14) rfl
theorem dX4_signsAhead_27 : decode cX4_signsAhead 27 = .ok (.iload_n 2, 1) := dq daX4_signsAhead_0 (i := 15) rfl
theorem dX4_signsAhead_28 : decode cX4_signsAhead 28 = .ok (.invokevirtual 134, 3) := dq daX4_signsAhead_0 (i := 16) rfl
theorem dX4_signsAhead_31 : decode cX4_signsAhead 31 = .ok (.goto 4, 3) := dq daX4_signsAhead_0 (i := 17) rfl
theorem dX4_signsAhead_34 : decode cX4_signsAhead 34 = .ok (.iconst 0, 1) := dq daX4_signsAhead_0 (i := 18) rfl
theorem dX4_signsAhead_35 : decode cX4_signsAhead 35 = .ok (.ireturn, 1) := dq daX4_signsAhead_0 (i := 19) rfl
theorem daX5_init_0 : dchk cX5_init [(0, .aload_n 0, 1), (1, .invokespecial 3, 3), (4, .aload_n 0, 1), (5, .bipush 39, 2), (7, .newarray .int, 2), (9, .putfield 11, 3), (12, .return_, 1)] = true := by decide +kernel
theorem dX5_init_0 : decode cX5_init 0 = .ok (.aload_n 0, 1) := dq daX5_init_0 (i := 0) rfl
theorem dX5_init_1 : decode cX5_init 1 = .ok (.invokespecial 3, 3) := dq daX5_init_0 (i := 1) rfl
theorem dX5_init_4 : decode cX5_init 4 = .ok (.aload_n 0, 1) := dq daX5_init_0 (i := 2) rfl
theorem dX5_init_5 : decode cX5_init 5 = .ok (.bipush 39, 2) := dq daX5_init_0 (i := 3) rfl
theorem dX5_init_7 : decode cX5_init 7 = .ok (.newarray .int, 2) := dq daX5_init_0 (i := 4) rfl
theorem dX5_init_9 : decode cX5_init 9 = .ok (.putfield 11, 3) := dq daX5_init_0 (i := 5) rfl
theorem dX5_init_12 : decode cX5_init 12 = .ok (.return_, 1) := dq daX5_init_0 (i := 6) rfl
theorem daX5_byteAt_0 : dchk cX5_byteAt [(0, .iload_n 1, 1), (1, .ifCond .lt 26, 3), (4, .iload_n 1, 1), (5, .aload_n 0, 1), (6, .getfield 15, 3), (9, .if_icmp .ge 18, 3), (12, .iload_n 1, 1), (13, .bipush 39, 2), (15, .if_icmp .ge 12, 3), (18, .aload_n 0, 1), (19, .getfield 11, 3), (22, .iload_n 1, 1), (23, .iaload, 1), (24, .goto 5, 3), (27, .bipush (-2), 2), (29, .ireturn, 1)] = true := by decide +kernel
theorem dX5_byteAt_0 : decode cX5_byteAt 0 = .ok (.iload_n 1, 1) := dq daX5_byteAt_0 (i := 0) rfl
theorem dX5_byteAt_1 : decode cX5_byteAt 1 = .ok (.ifCond .lt 26, 3) := dq daX5_byteAt_0 (i := 1) rfl
theorem dX5_byteAt_4 : decode cX5_byteAt 4 = .ok (.iload_n 1, 1) := dq daX5_byteAt_0 (i := 2) rfl
theorem dX5_byteAt_5 : decode cX5_byteAt 5 = .ok (.aload_n 0, 1) := dq daX5_byteAt_0 (i := 3) rfl
theorem dX5_byteAt_6 : decode cX5_byteAt 6 = .ok (.getfield 15, 3) := dq daX5_byteAt_0 (i := 4) rfl
theorem dX5_byteAt_9 : decode cX5_byteAt 9 = .ok (.if_icmp .ge 18, 3) := dq daX5_byteAt_0 (i := 5) rfl
theorem dX5_byteAt_12 : decode cX5_byteAt 12 = .ok (.iload_n 1, 1) := dq daX5_byteAt_0 (i := 6) rfl
theorem dX5_byteAt_13 : decode cX5_byteAt 13 = .ok (.bipush 39, 2) := dq daX5_byteAt_0 (i := 7) rfl
theorem dX5_byteAt_15 : decode cX5_byteAt 15 = .ok (.if_icmp .ge 12, 3) := dq daX5_byteAt_0 (i := 8) rfl
theorem dX5_byteAt_18 : decode cX5_byteAt 18 = .ok (.aload_n 0, 1) := dq daX5_byteAt_0 (i := 9) rfl
theorem dX5_byteAt_19 : decode cX5_byteAt 19 = .ok (.getfield 11, 3) := dq daX5_byteAt_0 (i := 10) rfl
theorem dX5_byteAt_22 : decode cX5_byteAt 22 = .ok (.iload_n 1, 1) := dq daX5_byteAt_0 (i := 11) rfl
theorem dX5_byteAt_23 : decode cX5_byteAt 23 = .ok (.iaload, 1) := dq daX5_byteAt_0 (i := 12) rfl
theorem dX5_byteAt_24 : decode cX5_byteAt 24 = .ok (.goto 5, 3) := dq daX5_byteAt_0 (i := 13) rfl
theorem dX5_byteAt_27 : decode cX5_byteAt 27 = .ok (.bipush (-2), 2) := dq daX5_byteAt_0 (i := 14) rfl
theorem dX5_byteAt_29 : decode cX5_byteAt 29 = .ok (.ireturn, 1) := dq daX5_byteAt_0 (i := 15) rfl
theorem daX5_tell_0 : dchk cX5_tell [(0, .aload_n 0, 1), (1, .iconst 0, 1), (2, .putfield 15, 3), (5, .aload_n 0, 1), (6, .aload_n 1, 1), (7, .getfield 19, 3), (10, .invokevirtual 24, 3), (13, .aload_n 0, 1), (14, .bipush 58, 2), (16, .invokevirtual 28, 3), (19, .iconst 0, 1), (20, .istore_n 2, 1), (21, .iload_n 2, 1), (22, .aload_n 1, 1), (23, .getfield 31, 3), (26, .if_icmp .ge 28, 3), (29, .iload_n 2, 1), (30, .ifCond .le 9, 3), (33, .aload_n 0, 1), (34, .bipush 44, 2), (36, .invokevirtual 28, 3), (39, .aload_n 0, 1), (40, .aload_n 1, 1), (41, .iload_n 2, 1), (42, .invokevirtual 32, 3), (45, .invokevirtual 36, 3), (48, .iinc 2 1, 3), (51, .goto (-30), 3), (54, .aload_n 0, 1), (55, .bipush 47, 2), (57, .invokevirtual 28, 3), (60, .aload_n 0, 1), (61, .aload_n 1, 1), (62, .getfield 39, 3), (65, .invokevirtual 24, 3), (68, .aload_n 1, 1), (69, .getfield 42, 3), (72, .invokestatic 46, 3), (75, .istore_n 2, 1), (76, .iconst 0, 1)] = true := by decide +kernel
theorem dX5_tell_0 : decode cX5_tell 0 = .ok (.aload_n 0, 1) := dq daX5_tell_0 (i := 0) rfl
theorem dX5_tell_1 : decode cX5_tell 1 = .ok (.iconst 0, 1) := dq daX5_tell_0 (i := 1) rfl
theorem dX5_tell_2 : decode cX5_tell 2 = .ok (.putfield 15, 3) := dq daX5_tell_0 (i := 2) rfl
theorem dX5_tell_5 : decode cX5_tell 5 = .ok (.aload_n 0, 1) := dq daX5_tell_0 (i := 3) rfl
theorem dX5_tell_6 : decode cX5_tell 6 = .ok (.aload_n 1, 1) := dq daX5_tell_0 (i := 4) rfl
theorem dX5_tell_7 : decode cX5_tell 7 = .ok (.getfield 19, 3) := dq daX5_tell_0 (i := 5) rfl
theorem dX5_tell_10 : decode cX5_tell 10 = .ok (.invokevirtual 24, 3) := dq daX5_tell_0 (i := 6) rfl
theorem dX5_tell_13 : decode cX5_tell 13 = .ok (.aload_n 0, 1) := dq daX5_tell_0 (i := 7) rfl
theorem dX5_tell_14 : decode cX5_tell 14 = .ok (.bipush 58, 2) := dq daX5_tell_0 (i := 8) rfl
theorem dX5_tell_16 : decode cX5_tell 16 = .ok (.invokevirtual 28, 3) := dq daX5_tell_0 (i := 9) rfl
theorem dX5_tell_19 : decode cX5_tell 19 = .ok (.iconst 0, 1) := dq daX5_tell_0 (i := 10) rfl
theorem dX5_tell_20 : decode cX5_tell 20 = .ok (.istore_n 2, 1) := dq daX5_tell_0 (i := 11) rfl
theorem dX5_tell_21 : decode cX5_tell 21 = .ok (.iload_n 2, 1) := dq daX5_tell_0 (i := 12) rfl
theorem dX5_tell_22 : decode cX5_tell 22 = .ok (.aload_n 1, 1) := dq daX5_tell_0 (i := 13) rfl
theorem dX5_tell_23 : decode cX5_tell 23 = .ok (.getfield 31, 3) := dq daX5_tell_0 (i := 14) rfl
theorem dX5_tell_26 : decode cX5_tell 26 = .ok (.if_icmp .ge 28, 3) := dq daX5_tell_0 (i := 15) rfl
theorem dX5_tell_29 : decode cX5_tell 29 = .ok (.iload_n 2, 1) := dq daX5_tell_0 (i := 16) rfl
theorem dX5_tell_30 : decode cX5_tell 30 = .ok (.ifCond .le 9, 3) := dq daX5_tell_0 (i := 17) rfl
theorem dX5_tell_33 : decode cX5_tell 33 = .ok (.aload_n 0, 1) := dq daX5_tell_0 (i := 18) rfl
theorem dX5_tell_34 : decode cX5_tell 34 = .ok (.bipush 44, 2) := dq daX5_tell_0 (i := 19) rfl
theorem dX5_tell_36 : decode cX5_tell 36 = .ok (.invokevirtual 28, 3) := dq daX5_tell_0 (i := 20) rfl
theorem dX5_tell_39 : decode cX5_tell 39 = .ok (.aload_n 0, 1) := dq daX5_tell_0 (i := 21) rfl
theorem dX5_tell_40 : decode cX5_tell 40 = .ok (.aload_n 1, 1) := dq daX5_tell_0 (i := 22) rfl
theorem dX5_tell_41 : decode cX5_tell 41 = .ok (.iload_n 2, 1) := dq daX5_tell_0 (i := 23) rfl
theorem dX5_tell_42 : decode cX5_tell 42 = .ok (.invokevirtual 32, 3) := dq daX5_tell_0 (i := 24) rfl
theorem dX5_tell_45 : decode cX5_tell 45 = .ok (.invokevirtual 36, 3) := dq daX5_tell_0 (i := 25) rfl
theorem dX5_tell_48 : decode cX5_tell 48 = .ok (.iinc 2 1, 3) := dq daX5_tell_0 (i := 26) rfl
theorem dX5_tell_51 : decode cX5_tell 51 = .ok (.goto (-30), 3) := dq daX5_tell_0 (i := 27) rfl
theorem dX5_tell_54 : decode cX5_tell 54 = .ok (.aload_n 0, 1) := dq daX5_tell_0 (i := 28) rfl
theorem dX5_tell_55 : decode cX5_tell 55 = .ok (.bipush 47, 2) := dq daX5_tell_0 (i := 29) rfl
theorem dX5_tell_57 : decode cX5_tell 57 = .ok (.invokevirtual 28, 3) := dq daX5_tell_0 (i := 30) rfl
theorem dX5_tell_60 : decode cX5_tell 60 = .ok (.aload_n 0, 1) := dq daX5_tell_0 (i := 31) rfl
theorem dX5_tell_61 : decode cX5_tell 61 = .ok (.aload_n 1, 1) := dq daX5_tell_0 (i := 32) rfl
theorem dX5_tell_62 : decode cX5_tell 62 = .ok (.getfield 39, 3) := dq daX5_tell_0 (i := 33) rfl
theorem dX5_tell_65 : decode cX5_tell 65 = .ok (.invokevirtual 24, 3) := dq daX5_tell_0 (i := 34) rfl
theorem dX5_tell_68 : decode cX5_tell 68 = .ok (.aload_n 1, 1) := dq daX5_tell_0 (i := 35) rfl
theorem dX5_tell_69 : decode cX5_tell 69 = .ok (.getfield 42, 3) := dq daX5_tell_0 (i := 36) rfl
theorem dX5_tell_72 : decode cX5_tell 72 = .ok (.invokestatic 46, 3) := dq daX5_tell_0 (i := 37) rfl
theorem dX5_tell_75 : decode cX5_tell 75 = .ok (.istore_n 2, 1) := dq daX5_tell_0 (i := 38) rfl
theorem dX5_tell_76 : decode cX5_tell 76 = .ok (.iconst 0, 1) := dq daX5_tell_0 (i := 39) rfl
theorem daX5_tell_40 : dchk cX5_tell [(77, .istore_n 3, 1), (78, .iload_n 3, 1), (79, .iload_n 2, 1), (80, .if_icmp .ge 21, 3), (83, .aload_n 0, 1), (84, .aload_n 1, 1), (85, .getfield 42, 3), (88, .iload_n 3, 1), (89, .invokestatic 52, 3), (92, .invokevirtual 56, 3), (95, .iinc 3 1, 3), (98, .goto (-20), 3), (101, .return_, 1)] = true := by decide +kernel
theorem dX5_tell_77 : decode cX5_tell 77 = .ok (.istore_n 3, 1) := dq daX5_tell_40 (i := 0) rfl
theorem dX5_tell_78 : decode cX5_tell 78 = .ok (.iload_n 3, 1) := dq daX5_tell_40 (i := 1) rfl
theorem dX5_tell_79 : decode cX5_tell 79 = .ok (.iload_n 2, 1) := dq daX5_tell_40 (i := 2) rfl
theorem dX5_tell_80 : decode cX5_tell 80 = .ok (.if_icmp .ge 21, 3) := dq daX5_tell_40 (i := 3) rfl
theorem dX5_tell_83 : decode cX5_tell 83 = .ok (.aload_n 0, 1) := dq daX5_tell_40 (i := 4) rfl
theorem dX5_tell_84 : decode cX5_tell 84 = .ok (.aload_n 1, 1) := dq daX5_tell_40 (i := 5) rfl
theorem dX5_tell_85 : decode cX5_tell 85 = .ok (.getfield 42, 3) := dq daX5_tell_40 (i := 6) rfl
theorem dX5_tell_88 : decode cX5_tell 88 = .ok (.iload_n 3, 1) := dq daX5_tell_40 (i := 7) rfl
theorem dX5_tell_89 : decode cX5_tell 89 = .ok (.invokestatic 52, 3) := dq daX5_tell_40 (i := 8) rfl
theorem dX5_tell_92 : decode cX5_tell 92 = .ok (.invokevirtual 56, 3) := dq daX5_tell_40 (i := 9) rfl
theorem dX5_tell_95 : decode cX5_tell 95 = .ok (.iinc 3 1, 3) := dq daX5_tell_40 (i := 10) rfl
theorem dX5_tell_98 : decode cX5_tell 98 = .ok (.goto (-20), 3) := dq daX5_tell_40 (i := 11) rfl
theorem dX5_tell_101 : decode cX5_tell 101 = .ok (.return_, 1) := dq daX5_tell_40 (i := 12) rfl
theorem daX5_addPower_0 : dchk cX5_addPower [(0, .iload_n 1, 1), (1, .bipush 10, 2), (3, .if_icmp .lt 11, 3), (6, .aload_n 0, 1), (7, .iload_n 1, 1), (8, .bipush 10, 2), (10, .idiv, 1), (11, .invokevirtual 24, 3), (14, .aload_n 0, 1), (15, .iload_n 1, 1), (16, .bipush 10, 2), (18, .irem, 1), (19, .invokevirtual 24, 3), (22, .return_, 1)] = true := by decide +kernel
theorem dX5_addPower_0 : decode cX5_addPower 0 = .ok (.iload_n 1, 1) := dq daX5_addPower_0 (i := 0) rfl
theorem dX5_addPower_1 : decode cX5_addPower 1 = .ok (.bipush 10, 2) := dq daX5_addPower_0 (i := 1) rfl
theorem dX5_addPower_3 : decode cX5_addPower 3 = .ok (.if_icmp .lt 11, 3) := dq daX5_addPower_0 (i := 2) rfl
theorem dX5_addPower_6 : decode cX5_addPower 6 = .ok (.aload_n 0, 1) := dq daX5_addPower_0 (i := 3) rfl
theorem dX5_addPower_7 : decode cX5_addPower 7 = .ok (.iload_n 1, 1) := dq daX5_addPower_0 (i := 4) rfl
theorem dX5_addPower_8 : decode cX5_addPower 8 = .ok (.bipush 10, 2) := dq daX5_addPower_0 (i := 5) rfl
theorem dX5_addPower_10 : decode cX5_addPower 10 = .ok (.idiv, 1) := dq daX5_addPower_0 (i := 6) rfl
theorem dX5_addPower_11 : decode cX5_addPower 11 = .ok (.invokevirtual 24, 3) := dq daX5_addPower_0 (i := 7) rfl
theorem dX5_addPower_14 : decode cX5_addPower 14 = .ok (.aload_n 0, 1) := dq daX5_addPower_0 (i := 8) rfl
theorem dX5_addPower_15 : decode cX5_addPower 15 = .ok (.iload_n 1, 1) := dq daX5_addPower_0 (i := 9) rfl
theorem dX5_addPower_16 : decode cX5_addPower 16 = .ok (.bipush 10, 2) := dq daX5_addPower_0 (i := 10) rfl
theorem dX5_addPower_18 : decode cX5_addPower 18 = .ok (.irem, 1) := dq daX5_addPower_0 (i := 11) rfl
theorem dX5_addPower_19 : decode cX5_addPower 19 = .ok (.invokevirtual 24, 3) := dq daX5_addPower_0 (i := 12) rfl
theorem dX5_addPower_22 : decode cX5_addPower 22 = .ok (.return_, 1) := dq daX5_addPower_0 (i := 13) rfl
theorem daX5_addSplit_0 : dchk cX5_addSplit [(0, .aload_n 0, 1), (1, .bipush 59, 2), (3, .invokevirtual 28, 3), (6, .iconst 0, 1), (7, .istore_n 2, 1), (8, .iload_n 2, 1), (9, .bipush 6, 2), (11, .if_icmp .ge 22, 3), (14, .iload_n 1, 1), (15, .iload_n 2, 1), (16, .ishr, 1), (17, .iconst 1, 1), (18, .iand, 1), (19, .ifCond .eq 8, 3), (22, .aload_n 0, 1), (23, .iload_n 2, 1), (24, .invokevirtual 24, 3), (27, .iinc 2 1, 3), (30, .goto (-22), 3), (33, .return_, 1)] = true := by decide +kernel
theorem dX5_addSplit_0 : decode cX5_addSplit 0 = .ok (.aload_n 0, 1) := dq daX5_addSplit_0 (i := 0) rfl
theorem dX5_addSplit_1 : decode cX5_addSplit 1 = .ok (.bipush 59, 2) := dq daX5_addSplit_0 (i := 1) rfl
theorem dX5_addSplit_3 : decode cX5_addSplit 3 = .ok (.invokevirtual 28, 3) := dq daX5_addSplit_0 (i := 2) rfl
theorem dX5_addSplit_6 : decode cX5_addSplit 6 = .ok (.iconst 0, 1) := dq daX5_addSplit_0 (i := 3) rfl
theorem dX5_addSplit_7 : decode cX5_addSplit 7 = .ok (.istore_n 2, 1) := dq daX5_addSplit_0 (i := 4) rfl
theorem dX5_addSplit_8 : decode cX5_addSplit 8 = .ok (.iload_n 2, 1) := dq daX5_addSplit_0 (i := 5) rfl
theorem dX5_addSplit_9 : decode cX5_addSplit 9 = .ok (.bipush 6, 2) := dq daX5_addSplit_0 (i := 6) rfl
theorem dX5_addSplit_11 : decode cX5_addSplit 11 = .ok (.if_icmp .ge 22, 3) := dq daX5_addSplit_0 (i := 7) rfl
theorem dX5_addSplit_14 : decode cX5_addSplit 14 = .ok (.iload_n 1, 1) := dq daX5_addSplit_0 (i := 8) rfl
theorem dX5_addSplit_15 : decode cX5_addSplit 15 = .ok (.iload_n 2, 1) := dq daX5_addSplit_0 (i := 9) rfl
theorem dX5_addSplit_16 : decode cX5_addSplit 16 = .ok (.ishr, 1) := dq daX5_addSplit_0 (i := 10) rfl
theorem dX5_addSplit_17 : decode cX5_addSplit 17 = .ok (.iconst 1, 1) := dq daX5_addSplit_0 (i := 11) rfl
theorem dX5_addSplit_18 : decode cX5_addSplit 18 = .ok (.iand, 1) := dq daX5_addSplit_0 (i := 12) rfl
theorem dX5_addSplit_19 : decode cX5_addSplit 19 = .ok (.ifCond .eq 8, 3) := dq daX5_addSplit_0 (i := 13) rfl
theorem dX5_addSplit_22 : decode cX5_addSplit 22 = .ok (.aload_n 0, 1) := dq daX5_addSplit_0 (i := 14) rfl
theorem dX5_addSplit_23 : decode cX5_addSplit 23 = .ok (.iload_n 2, 1) := dq daX5_addSplit_0 (i := 15) rfl
theorem dX5_addSplit_24 : decode cX5_addSplit 24 = .ok (.invokevirtual 24, 3) := dq daX5_addSplit_0 (i := 16) rfl
theorem dX5_addSplit_27 : decode cX5_addSplit 27 = .ok (.iinc 2 1, 3) := dq daX5_addSplit_0 (i := 17) rfl
theorem dX5_addSplit_30 : decode cX5_addSplit 30 = .ok (.goto (-22), 3) := dq daX5_addSplit_0 (i := 18) rfl
theorem dX5_addSplit_33 : decode cX5_addSplit 33 = .ok (.return_, 1) := dq daX5_addSplit_0 (i := 19) rfl
theorem daX5_addFigure_0 : dchk cX5_addFigure [(0, .aload_n 0, 1), (1, .bipush 48, 2), (3, .iload_n 1, 1), (4, .iadd, 1), (5, .invokevirtual 28, 3), (8, .return_, 1)] = true := by decide +kernel
theorem dX5_addFigure_0 : decode cX5_addFigure 0 = .ok (.aload_n 0, 1) := dq daX5_addFigure_0 (i := 0) rfl
theorem dX5_addFigure_1 : decode cX5_addFigure 1 = .ok (.bipush 48, 2) := dq daX5_addFigure_0 (i := 1) rfl
theorem dX5_addFigure_3 : decode cX5_addFigure 3 = .ok (.iload_n 1, 1) := dq daX5_addFigure_0 (i := 2) rfl
theorem dX5_addFigure_4 : decode cX5_addFigure 4 = .ok (.iadd, 1) := dq daX5_addFigure_0 (i := 3) rfl
theorem dX5_addFigure_5 : decode cX5_addFigure 5 = .ok (.invokevirtual 28, 3) := dq daX5_addFigure_0 (i := 4) rfl
theorem dX5_addFigure_8 : decode cX5_addFigure 8 = .ok (.return_, 1) := dq daX5_addFigure_0 (i := 5) rfl
theorem daX5_addByte_0 : dchk cX5_addByte [(0, .aload_n 0, 1), (1, .getfield 15, 3), (4, .bipush 39, 2), (6, .if_icmp .ge 23, 3), (9, .aload_n 0, 1), (10, .getfield 11, 3), (13, .aload_n 0, 1), (14, .getfield 15, 3), (17, .iload_n 1, 1), (18, .iastore, 1), (19, .aload_n 0, 1), (20, .dup, 1), (21, .getfield 15, 3), (24, .iconst 1, 1), (25, .iadd, 1), (26, .putfield 15, 3), (29, .return_, 1)] = true := by decide +kernel
theorem dX5_addByte_0 : decode cX5_addByte 0 = .ok (.aload_n 0, 1) := dq daX5_addByte_0 (i := 0) rfl
theorem dX5_addByte_1 : decode cX5_addByte 1 = .ok (.getfield 15, 3) := dq daX5_addByte_0 (i := 1) rfl
theorem dX5_addByte_4 : decode cX5_addByte 4 = .ok (.bipush 39, 2) := dq daX5_addByte_0 (i := 2) rfl
theorem dX5_addByte_6 : decode cX5_addByte 6 = .ok (.if_icmp .ge 23, 3) := dq daX5_addByte_0 (i := 3) rfl
theorem dX5_addByte_9 : decode cX5_addByte 9 = .ok (.aload_n 0, 1) := dq daX5_addByte_0 (i := 4) rfl
theorem dX5_addByte_10 : decode cX5_addByte 10 = .ok (.getfield 11, 3) := dq daX5_addByte_0 (i := 5) rfl
theorem dX5_addByte_13 : decode cX5_addByte 13 = .ok (.aload_n 0, 1) := dq daX5_addByte_0 (i := 6) rfl
theorem dX5_addByte_14 : decode cX5_addByte 14 = .ok (.getfield 15, 3) := dq daX5_addByte_0 (i := 7) rfl
theorem dX5_addByte_17 : decode cX5_addByte 17 = .ok (.iload_n 1, 1) := dq daX5_addByte_0 (i := 8) rfl
theorem dX5_addByte_18 : decode cX5_addByte 18 = .ok (.iastore, 1) := dq daX5_addByte_0 (i := 9) rfl
theorem dX5_addByte_19 : decode cX5_addByte 19 = .ok (.aload_n 0, 1) := dq daX5_addByte_0 (i := 10) rfl
theorem dX5_addByte_20 : decode cX5_addByte 20 = .ok (.dup, 1) := dq daX5_addByte_0 (i := 11) rfl
theorem dX5_addByte_21 : decode cX5_addByte 21 = .ok (.getfield 15, 3) := dq daX5_addByte_0 (i := 12) rfl
theorem dX5_addByte_24 : decode cX5_addByte 24 = .ok (.iconst 1, 1) := dq daX5_addByte_0 (i := 13) rfl
theorem dX5_addByte_25 : decode cX5_addByte 25 = .ok (.iadd, 1) := dq daX5_addByte_0 (i := 14) rfl
theorem dX5_addByte_26 : decode cX5_addByte 26 = .ok (.putfield 15, 3) := dq daX5_addByte_0 (i := 15) rfl
theorem dX5_addByte_29 : decode cX5_addByte 29 = .ok (.return_, 1) := dq daX5_addByte_0 (i := 16) rfl
theorem daX6_isLeafCount_0 : dchk cX6_isLeafCount [(0, .iload_n 0, 1), (1, .iconst 3, 1), (2, .if_icmp .lt 13, 3), (5, .iload_n 0, 1), (6, .bipush 6, 2), (8, .if_icmp .gt 7, 3), (11, .iconst 1, 1), (12, .goto 4, 3), (15, .iconst 0, 1), (16, .ireturn, 1)] = true := by decide +kernel
theorem dX6_isLeafCount_0 : decode cX6_isLeafCount 0 = .ok (.iload_n 0, 1) := dq daX6_isLeafCount_0 (i := 0) rfl
theorem dX6_isLeafCount_1 : decode cX6_isLeafCount 1 = .ok (.iconst 3, 1) := dq daX6_isLeafCount_0 (i := 1) rfl
theorem dX6_isLeafCount_2 : decode cX6_isLeafCount 2 = .ok (.if_icmp .lt 13, 3) := dq daX6_isLeafCount_0 (i := 2) rfl
theorem dX6_isLeafCount_5 : decode cX6_isLeafCount 5 = .ok (.iload_n 0, 1) := dq daX6_isLeafCount_0 (i := 3) rfl
theorem dX6_isLeafCount_6 : decode cX6_isLeafCount 6 = .ok (.bipush 6, 2) := dq daX6_isLeafCount_0 (i := 4) rfl
theorem dX6_isLeafCount_8 : decode cX6_isLeafCount 8 = .ok (.if_icmp .gt 7, 3) := dq daX6_isLeafCount_0 (i := 5) rfl
theorem dX6_isLeafCount_11 : decode cX6_isLeafCount 11 = .ok (.iconst 1, 1) := dq daX6_isLeafCount_0 (i := 6) rfl
theorem dX6_isLeafCount_12 : decode cX6_isLeafCount 12 = .ok (.goto 4, 3) := dq daX6_isLeafCount_0 (i := 7) rfl
theorem dX6_isLeafCount_15 : decode cX6_isLeafCount 15 = .ok (.iconst 0, 1) := dq daX6_isLeafCount_0 (i := 8) rfl
theorem dX6_isLeafCount_16 : decode cX6_isLeafCount 16 = .ok (.ireturn, 1) := dq daX6_isLeafCount_0 (i := 9) rfl
theorem daX6_isSplit_0 : dchk cX6_isSplit [(0, .iload_n 1, 1), (1, .invokestatic 9, 3), (4, .ifCond .eq 20, 3), (7, .iload_n 0, 1), (8, .ifCond .le 16, 3), (11, .iload_n 0, 1), (12, .iconst 1, 1), (13, .iload_n 1, 1), (14, .ishl, 1), (15, .if_icmp .ge 9, 3), (18, .iload_n 0, 1), (19, .iconst 1, 1), (20, .iand, 1), (21, .ifCond .eq 5, 3), (24, .iconst 0, 1), (25, .ireturn, 1), (26, .iload_n 0, 1), (27, .invokestatic 15, 3), (30, .istore_n 2, 1), (31, .iload_n 2, 1), (32, .iconst 2, 1), (33, .if_icmp .lt 14, 3), (36, .iload_n 2, 1), (37, .iload_n 1, 1), (38, .iconst 2, 1), (39, .isub, 1), (40, .if_icmp .gt 7, 3), (43, .iconst 1, 1), (44, .goto 4, 3), (47, .iconst 0, 1), (48, .ireturn, 1)] = true := by decide +kernel
theorem dX6_isSplit_0 : decode cX6_isSplit 0 = .ok (.iload_n 1, 1) := dq daX6_isSplit_0 (i := 0) rfl
theorem dX6_isSplit_1 : decode cX6_isSplit 1 = .ok (.invokestatic 9, 3) := dq daX6_isSplit_0 (i := 1) rfl
theorem dX6_isSplit_4 : decode cX6_isSplit 4 = .ok (.ifCond .eq 20, 3) := dq daX6_isSplit_0 (i := 2) rfl
theorem dX6_isSplit_7 : decode cX6_isSplit 7 = .ok (.iload_n 0, 1) := dq daX6_isSplit_0 (i := 3) rfl
theorem dX6_isSplit_8 : decode cX6_isSplit 8 = .ok (.ifCond .le 16, 3) := dq daX6_isSplit_0 (i := 4) rfl
theorem dX6_isSplit_11 : decode cX6_isSplit 11 = .ok (.iload_n 0, 1) := dq daX6_isSplit_0 (i := 5) rfl
theorem dX6_isSplit_12 : decode cX6_isSplit 12 = .ok (.iconst 1, 1) := dq daX6_isSplit_0 (i := 6) rfl
theorem dX6_isSplit_13 : decode cX6_isSplit 13 = .ok (.iload_n 1, 1) := dq daX6_isSplit_0 (i := 7) rfl
theorem dX6_isSplit_14 : decode cX6_isSplit 14 = .ok (.ishl, 1) := dq daX6_isSplit_0 (i := 8) rfl
theorem dX6_isSplit_15 : decode cX6_isSplit 15 = .ok (.if_icmp .ge 9, 3) := dq daX6_isSplit_0 (i := 9) rfl
theorem dX6_isSplit_18 : decode cX6_isSplit 18 = .ok (.iload_n 0, 1) := dq daX6_isSplit_0 (i := 10) rfl
theorem dX6_isSplit_19 : decode cX6_isSplit 19 = .ok (.iconst 1, 1) := dq daX6_isSplit_0 (i := 11) rfl
theorem dX6_isSplit_20 : decode cX6_isSplit 20 = .ok (.iand, 1) := dq daX6_isSplit_0 (i := 12) rfl
theorem dX6_isSplit_21 : decode cX6_isSplit 21 = .ok (.ifCond .eq 5, 3) := dq daX6_isSplit_0 (i := 13) rfl
theorem dX6_isSplit_24 : decode cX6_isSplit 24 = .ok (.iconst 0, 1) := dq daX6_isSplit_0 (i := 14) rfl
theorem dX6_isSplit_25 : decode cX6_isSplit 25 = .ok (.ireturn, 1) := dq daX6_isSplit_0 (i := 15) rfl
theorem dX6_isSplit_26 : decode cX6_isSplit 26 = .ok (.iload_n 0, 1) := dq daX6_isSplit_0 (i := 16) rfl
theorem dX6_isSplit_27 : decode cX6_isSplit 27 = .ok (.invokestatic 15, 3) := dq daX6_isSplit_0 (i := 17) rfl
theorem dX6_isSplit_30 : decode cX6_isSplit 30 = .ok (.istore_n 2, 1) := dq daX6_isSplit_0 (i := 18) rfl
theorem dX6_isSplit_31 : decode cX6_isSplit 31 = .ok (.iload_n 2, 1) := dq daX6_isSplit_0 (i := 19) rfl
theorem dX6_isSplit_32 : decode cX6_isSplit 32 = .ok (.iconst 2, 1) := dq daX6_isSplit_0 (i := 20) rfl
theorem dX6_isSplit_33 : decode cX6_isSplit 33 = .ok (.if_icmp .lt 14, 3) := dq daX6_isSplit_0 (i := 21) rfl
theorem dX6_isSplit_36 : decode cX6_isSplit 36 = .ok (.iload_n 2, 1) := dq daX6_isSplit_0 (i := 22) rfl
theorem dX6_isSplit_37 : decode cX6_isSplit 37 = .ok (.iload_n 1, 1) := dq daX6_isSplit_0 (i := 23) rfl
theorem dX6_isSplit_38 : decode cX6_isSplit 38 = .ok (.iconst 2, 1) := dq daX6_isSplit_0 (i := 24) rfl
theorem dX6_isSplit_39 : decode cX6_isSplit 39 = .ok (.isub, 1) := dq daX6_isSplit_0 (i := 25) rfl
theorem dX6_isSplit_40 : decode cX6_isSplit 40 = .ok (.if_icmp .gt 7, 3) := dq daX6_isSplit_0 (i := 26) rfl
theorem dX6_isSplit_43 : decode cX6_isSplit 43 = .ok (.iconst 1, 1) := dq daX6_isSplit_0 (i := 27) rfl
theorem dX6_isSplit_44 : decode cX6_isSplit 44 = .ok (.goto 4, 3) := dq daX6_isSplit_0 (i := 28) rfl
theorem dX6_isSplit_47 : decode cX6_isSplit 47 = .ok (.iconst 0, 1) := dq daX6_isSplit_0 (i := 29) rfl
theorem dX6_isSplit_48 : decode cX6_isSplit 48 = .ok (.ireturn, 1) := dq daX6_isSplit_0 (i := 30) rfl
theorem daX6_has_0 : dchk cX6_has [(0, .iload_n 2, 1), (1, .ifCond .lt 23, 3), (4, .iload_n 2, 1), (5, .bipush 63, 2), (7, .if_icmp .gt 17, 3), (10, .lload_n 0, 1), (11, .iload_n 2, 1), (12, .lushr, 1), (13, .lconst 1, 1), (14, .land, 1), (15, .lconst 0, 1), (16, .lcmp, 1), (17, .ifCond .eq 7, 3), (20, .iconst 1, 1), (21, .goto 4, 3), (24, .iconst 0, 1), (25, .ireturn, 1)] = true := by decide +kernel
theorem dX6_has_0 : decode cX6_has 0 = .ok (.iload_n 2, 1) := dq daX6_has_0 (i := 0) rfl
theorem dX6_has_1 : decode cX6_has 1 = .ok (.ifCond .lt 23, 3) := dq daX6_has_0 (i := 1) rfl
theorem dX6_has_4 : decode cX6_has 4 = .ok (.iload_n 2, 1) := dq daX6_has_0 (i := 2) rfl
theorem dX6_has_5 : decode cX6_has 5 = .ok (.bipush 63, 2) := dq daX6_has_0 (i := 3) rfl
theorem dX6_has_7 : decode cX6_has 7 = .ok (.if_icmp .gt 17, 3) := dq daX6_has_0 (i := 4) rfl
theorem dX6_has_10 : decode cX6_has 10 = .ok (.lload_n 0, 1) := dq daX6_has_0 (i := 5) rfl
theorem dX6_has_11 : decode cX6_has 11 = .ok (.iload_n 2, 1) := dq daX6_has_0 (i := 6) rfl
theorem dX6_has_12 : decode cX6_has 12 = .ok (.lushr, 1) := dq daX6_has_0 (i := 7) rfl
theorem dX6_has_13 : decode cX6_has 13 = .ok (.lconst 1, 1) := dq daX6_has_0 (i := 8) rfl
theorem dX6_has_14 : decode cX6_has 14 = .ok (.land, 1) := dq daX6_has_0 (i := 9) rfl
theorem dX6_has_15 : decode cX6_has 15 = .ok (.lconst 0, 1) := dq daX6_has_0 (i := 10) rfl
theorem dX6_has_16 : decode cX6_has 16 = .ok (.lcmp, 1) := dq daX6_has_0 (i := 11) rfl
theorem dX6_has_17 : decode cX6_has 17 = .ok (.ifCond .eq 7, 3) := dq daX6_has_0 (i := 12) rfl
theorem dX6_has_20 : decode cX6_has 20 = .ok (.iconst 1, 1) := dq daX6_has_0 (i := 13) rfl
theorem dX6_has_21 : decode cX6_has 21 = .ok (.goto 4, 3) := dq daX6_has_0 (i := 14) rfl
theorem dX6_has_24 : decode cX6_has 24 = .ok (.iconst 0, 1) := dq daX6_has_0 (i := 15) rfl
theorem dX6_has_25 : decode cX6_has 25 = .ok (.ireturn, 1) := dq daX6_has_0 (i := 16) rfl
theorem daX6_with_0 : dchk cX6_with [(0, .iload_n 2, 1), (1, .ifCond .lt 17, 3), (4, .iload_n 2, 1), (5, .bipush 63, 2), (7, .if_icmp .gt 11, 3), (10, .lload_n 0, 1), (11, .lconst 1, 1), (12, .iload_n 2, 1), (13, .lshl, 1), (14, .lor, 1), (15, .goto 4, 3), (18, .lload_n 0, 1), (19, .lreturn, 1)] = true := by decide +kernel
theorem dX6_with_0 : decode cX6_with 0 = .ok (.iload_n 2, 1) := dq daX6_with_0 (i := 0) rfl
theorem dX6_with_1 : decode cX6_with 1 = .ok (.ifCond .lt 17, 3) := dq daX6_with_0 (i := 1) rfl
theorem dX6_with_4 : decode cX6_with 4 = .ok (.iload_n 2, 1) := dq daX6_with_0 (i := 2) rfl
theorem dX6_with_5 : decode cX6_with 5 = .ok (.bipush 63, 2) := dq daX6_with_0 (i := 3) rfl
theorem dX6_with_7 : decode cX6_with 7 = .ok (.if_icmp .gt 11, 3) := dq daX6_with_0 (i := 4) rfl
theorem dX6_with_10 : decode cX6_with 10 = .ok (.lload_n 0, 1) := dq daX6_with_0 (i := 5) rfl
theorem dX6_with_11 : decode cX6_with 11 = .ok (.lconst 1, 1) := dq daX6_with_0 (i := 6) rfl
theorem dX6_with_12 : decode cX6_with 12 = .ok (.iload_n 2, 1) := dq daX6_with_0 (i := 7) rfl
theorem dX6_with_13 : decode cX6_with 13 = .ok (.lshl, 1) := dq daX6_with_0 (i := 8) rfl
theorem dX6_with_14 : decode cX6_with 14 = .ok (.lor, 1) := dq daX6_with_0 (i := 9) rfl
theorem dX6_with_15 : decode cX6_with 15 = .ok (.goto 4, 3) := dq daX6_with_0 (i := 10) rfl
theorem dX6_with_18 : decode cX6_with 18 = .ok (.lload_n 0, 1) := dq daX6_with_0 (i := 11) rfl
theorem dX6_with_19 : decode cX6_with 19 = .ok (.lreturn, 1) := dq daX6_with_0 (i := 12) rfl
theorem daX6_without_0 : dchk cX6_without [(0, .iload_n 2, 1), (1, .ifCond .lt 21, 3), (4, .iload_n 2, 1), (5, .bipush 63, 2), (7, .if_icmp .gt 15, 3), (10, .lload_n 0, 1), (11, .lconst 1, 1), (12, .iload_n 2, 1), (13, .lshl, 1), (14, .ldc2_w 21, 3), (17, .lxor, 1), (18, .land, 1), (19, .goto 4, 3), (22, .lload_n 0, 1), (23, .lreturn, 1)] = true := by decide +kernel
theorem dX6_without_0 : decode cX6_without 0 = .ok (.iload_n 2, 1) := dq daX6_without_0 (i := 0) rfl
theorem dX6_without_1 : decode cX6_without 1 = .ok (.ifCond .lt 21, 3) := dq daX6_without_0 (i := 1) rfl
theorem dX6_without_4 : decode cX6_without 4 = .ok (.iload_n 2, 1) := dq daX6_without_0 (i := 2) rfl
theorem dX6_without_5 : decode cX6_without 5 = .ok (.bipush 63, 2) := dq daX6_without_0 (i := 3) rfl
theorem dX6_without_7 : decode cX6_without 7 = .ok (.if_icmp .gt 15, 3) := dq daX6_without_0 (i := 4) rfl
theorem dX6_without_10 : decode cX6_without 10 = .ok (.lload_n 0, 1) := dq daX6_without_0 (i := 5) rfl
theorem dX6_without_11 : decode cX6_without 11 = .ok (.lconst 1, 1) := dq daX6_without_0 (i := 6) rfl
theorem dX6_without_12 : decode cX6_without 12 = .ok (.iload_n 2, 1) := dq daX6_without_0 (i := 7) rfl
theorem dX6_without_13 : decode cX6_without 13 = .ok (.lshl, 1) := dq daX6_without_0 (i := 8) rfl
theorem dX6_without_14 : decode cX6_without 14 = .ok (.ldc2_w 21, 3) := dq daX6_without_0 (i := 9) rfl
theorem dX6_without_17 : decode cX6_without 17 = .ok (.lxor, 1) := dq daX6_without_0 (i := 10) rfl
theorem dX6_without_18 : decode cX6_without 18 = .ok (.land, 1) := dq daX6_without_0 (i := 11) rfl
theorem dX6_without_19 : decode cX6_without 19 = .ok (.goto 4, 3) := dq daX6_without_0 (i := 12) rfl
theorem dX6_without_22 : decode cX6_without 22 = .ok (.lload_n 0, 1) := dq daX6_without_0 (i := 13) rfl
theorem dX6_without_23 : decode cX6_without 23 = .ok (.lreturn, 1) := dq daX6_without_0 (i := 14) rfl
theorem daX6_sizeOf_0 : dchk cX6_sizeOf [(0, .lload_n 0, 1), (1, .invokestatic 23, 3), (4, .ireturn, 1)] = true := by decide +kernel
theorem dX6_sizeOf_0 : decode cX6_sizeOf 0 = .ok (.lload_n 0, 1) := dq daX6_sizeOf_0 (i := 0) rfl
theorem dX6_sizeOf_1 : decode cX6_sizeOf 1 = .ok (.invokestatic 23, 3) := dq daX6_sizeOf_0 (i := 1) rfl
theorem dX6_sizeOf_4 : decode cX6_sizeOf 4 = .ok (.ireturn, 1) := dq daX6_sizeOf_0 (i := 2) rfl
theorem daX6_nth_0 : dchk cX6_nth [(0, .iload_n 2, 1), (1, .ifCond .lt 11, 3), (4, .iload_n 2, 1), (5, .lload_n 0, 1), (6, .invokestatic 23, 3), (9, .if_icmp .lt 5, 3), (12, .iconst (-1), 1), (13, .ireturn, 1), (14, .lload_n 0, 1), (15, .lstore_n 3, 1), (16, .iconst 0, 1), (17, .istore 5, 2), (19, .iload 5, 2), (21, .iload_n 2, 1), (22, .if_icmp .ge 15, 3), (25, .lload_n 3, 1), (26, .lload_n 3, 1), (27, .lconst 1, 1), (28, .lsub, 1), (29, .land, 1), (30, .lstore_n 3, 1), (31, .iinc 5 1, 3), (34, .goto (-15), 3), (37, .lload_n 3, 1), (38, .lload_n 3, 1), (39, .lneg, 1), (40, .land, 1), (41, .lconst 1, 1), (42, .lsub, 1), (43, .invokestatic 23, 3), (46, .ireturn, 1)] = true := by decide +kernel
theorem dX6_nth_0 : decode cX6_nth 0 = .ok (.iload_n 2, 1) := dq daX6_nth_0 (i := 0) rfl
theorem dX6_nth_1 : decode cX6_nth 1 = .ok (.ifCond .lt 11, 3) := dq daX6_nth_0 (i := 1) rfl
theorem dX6_nth_4 : decode cX6_nth 4 = .ok (.iload_n 2, 1) := dq daX6_nth_0 (i := 2) rfl
theorem dX6_nth_5 : decode cX6_nth 5 = .ok (.lload_n 0, 1) := dq daX6_nth_0 (i := 3) rfl
theorem dX6_nth_6 : decode cX6_nth 6 = .ok (.invokestatic 23, 3) := dq daX6_nth_0 (i := 4) rfl
theorem dX6_nth_9 : decode cX6_nth 9 = .ok (.if_icmp .lt 5, 3) := dq daX6_nth_0 (i := 5) rfl
theorem dX6_nth_12 : decode cX6_nth 12 = .ok (.iconst (-1), 1) := dq daX6_nth_0 (i := 6) rfl
theorem dX6_nth_13 : decode cX6_nth 13 = .ok (.ireturn, 1) := dq daX6_nth_0 (i := 7) rfl
theorem dX6_nth_14 : decode cX6_nth 14 = .ok (.lload_n 0, 1) := dq daX6_nth_0 (i := 8) rfl
theorem dX6_nth_15 : decode cX6_nth 15 = .ok (.lstore_n 3, 1) := dq daX6_nth_0 (i := 9) rfl
theorem dX6_nth_16 : decode cX6_nth 16 = .ok (.iconst 0, 1) := dq daX6_nth_0 (i := 10) rfl
theorem dX6_nth_17 : decode cX6_nth 17 = .ok (.istore 5, 2) := dq daX6_nth_0 (i := 11) rfl
theorem dX6_nth_19 : decode cX6_nth 19 = .ok (.iload 5, 2) := dq daX6_nth_0 (i := 12) rfl
theorem dX6_nth_21 : decode cX6_nth 21 = .ok (.iload_n 2, 1) := dq daX6_nth_0 (i := 13) rfl
theorem dX6_nth_22 : decode cX6_nth 22 = .ok (.if_icmp .ge 15, 3) := dq daX6_nth_0 (i := 14) rfl
theorem dX6_nth_25 : decode cX6_nth 25 = .ok (.lload_n 3, 1) := dq daX6_nth_0 (i := 15) rfl
theorem dX6_nth_26 : decode cX6_nth 26 = .ok (.lload_n 3, 1) := dq daX6_nth_0 (i := 16) rfl
theorem dX6_nth_27 : decode cX6_nth 27 = .ok (.lconst 1, 1) := dq daX6_nth_0 (i := 17) rfl
theorem dX6_nth_28 : decode cX6_nth 28 = .ok (.lsub, 1) := dq daX6_nth_0 (i := 18) rfl
theorem dX6_nth_29 : decode cX6_nth 29 = .ok (.land, 1) := dq daX6_nth_0 (i := 19) rfl
theorem dX6_nth_30 : decode cX6_nth 30 = .ok (.lstore_n 3, 1) := dq daX6_nth_0 (i := 20) rfl
theorem dX6_nth_31 : decode cX6_nth 31 = .ok (.iinc 5 1, 3) := dq daX6_nth_0 (i := 21) rfl
theorem dX6_nth_34 : decode cX6_nth 34 = .ok (.goto (-15), 3) := dq daX6_nth_0 (i := 22) rfl
theorem dX6_nth_37 : decode cX6_nth 37 = .ok (.lload_n 3, 1) := dq daX6_nth_0 (i := 23) rfl
theorem dX6_nth_38 : decode cX6_nth 38 = .ok (.lload_n 3, 1) := dq daX6_nth_0 (i := 24) rfl
theorem dX6_nth_39 : decode cX6_nth 39 = .ok (.lneg, 1) := dq daX6_nth_0 (i := 25) rfl
theorem dX6_nth_40 : decode cX6_nth 40 = .ok (.land, 1) := dq daX6_nth_0 (i := 26) rfl
theorem dX6_nth_41 : decode cX6_nth 41 = .ok (.lconst 1, 1) := dq daX6_nth_0 (i := 27) rfl
theorem dX6_nth_42 : decode cX6_nth 42 = .ok (.lsub, 1) := dq daX6_nth_0 (i := 28) rfl
theorem dX6_nth_43 : decode cX6_nth 43 = .ok (.invokestatic 23, 3) := dq daX6_nth_0 (i := 29) rfl
theorem dX6_nth_46 : decode cX6_nth 46 = .ok (.ireturn, 1) := dq daX6_nth_0 (i := 30) rfl
theorem daX6_isWithin_0 : dchk cX6_isWithin [(0, .iload_n 0, 1), (1, .iload_n 1, 1), (2, .iand, 1), (3, .iload_n 0, 1), (4, .if_icmp .ne 7, 3), (7, .iconst 1, 1), (8, .goto 4, 3), (11, .iconst 0, 1), (12, .ireturn, 1)] = true := by decide +kernel
theorem dX6_isWithin_0 : decode cX6_isWithin 0 = .ok (.iload_n 0, 1) := dq daX6_isWithin_0 (i := 0) rfl
theorem dX6_isWithin_1 : decode cX6_isWithin 1 = .ok (.iload_n 1, 1) := dq daX6_isWithin_0 (i := 1) rfl
theorem dX6_isWithin_2 : decode cX6_isWithin 2 = .ok (.iand, 1) := dq daX6_isWithin_0 (i := 2) rfl
theorem dX6_isWithin_3 : decode cX6_isWithin 3 = .ok (.iload_n 0, 1) := dq daX6_isWithin_0 (i := 3) rfl
theorem dX6_isWithin_4 : decode cX6_isWithin 4 = .ok (.if_icmp .ne 7, 3) := dq daX6_isWithin_0 (i := 4) rfl
theorem dX6_isWithin_7 : decode cX6_isWithin 7 = .ok (.iconst 1, 1) := dq daX6_isWithin_0 (i := 5) rfl
theorem dX6_isWithin_8 : decode cX6_isWithin 8 = .ok (.goto 4, 3) := dq daX6_isWithin_0 (i := 6) rfl
theorem dX6_isWithin_11 : decode cX6_isWithin 11 = .ok (.iconst 0, 1) := dq daX6_isWithin_0 (i := 7) rfl
theorem dX6_isWithin_12 : decode cX6_isWithin 12 = .ok (.ireturn, 1) := dq daX6_isWithin_0 (i := 8) rfl
theorem daX6_goTogether_0 : dchk cX6_goTogether [(0, .iload_n 0, 1), (1, .iload_n 1, 1), (2, .iand, 1), (3, .istore_n 2, 1), (4, .iload_n 2, 1), (5, .ifCond .eq 13, 3), (8, .iload_n 2, 1), (9, .iload_n 0, 1), (10, .if_icmp .eq 8, 3), (13, .iload_n 2, 1), (14, .iload_n 1, 1), (15, .if_icmp .ne 7, 3), (18, .iconst 1, 1), (19, .goto 4, 3), (22, .iconst 0, 1), (23, .ireturn, 1)] = true := by decide +kernel
theorem dX6_goTogether_0 : decode cX6_goTogether 0 = .ok (.iload_n 0, 1) := dq daX6_goTogether_0 (i := 0) rfl
theorem dX6_goTogether_1 : decode cX6_goTogether 1 = .ok (.iload_n 1, 1) := dq daX6_goTogether_0 (i := 1) rfl
theorem dX6_goTogether_2 : decode cX6_goTogether 2 = .ok (.iand, 1) := dq daX6_goTogether_0 (i := 2) rfl
theorem dX6_goTogether_3 : decode cX6_goTogether 3 = .ok (.istore_n 2, 1) := dq daX6_goTogether_0 (i := 3) rfl
theorem dX6_goTogether_4 : decode cX6_goTogether 4 = .ok (.iload_n 2, 1) := dq daX6_goTogether_0 (i := 4) rfl
theorem dX6_goTogether_5 : decode cX6_goTogether 5 = .ok (.ifCond .eq 13, 3) := dq daX6_goTogether_0 (i := 5) rfl
theorem dX6_goTogether_8 : decode cX6_goTogether 8 = .ok (.iload_n 2, 1) := dq daX6_goTogether_0 (i := 6) rfl
theorem dX6_goTogether_9 : decode cX6_goTogether 9 = .ok (.iload_n 0, 1) := dq daX6_goTogether_0 (i := 7) rfl
theorem dX6_goTogether_10 : decode cX6_goTogether 10 = .ok (.if_icmp .eq 8, 3) := dq daX6_goTogether_0 (i := 8) rfl
theorem dX6_goTogether_13 : decode cX6_goTogether 13 = .ok (.iload_n 2, 1) := dq daX6_goTogether_0 (i := 9) rfl
theorem dX6_goTogether_14 : decode cX6_goTogether 14 = .ok (.iload_n 1, 1) := dq daX6_goTogether_0 (i := 10) rfl
theorem dX6_goTogether_15 : decode cX6_goTogether 15 = .ok (.if_icmp .ne 7, 3) := dq daX6_goTogether_0 (i := 11) rfl
theorem dX6_goTogether_18 : decode cX6_goTogether 18 = .ok (.iconst 1, 1) := dq daX6_goTogether_0 (i := 12) rfl
theorem dX6_goTogether_19 : decode cX6_goTogether 19 = .ok (.goto 4, 3) := dq daX6_goTogether_0 (i := 13) rfl
theorem dX6_goTogether_22 : decode cX6_goTogether 22 = .ok (.iconst 0, 1) := dq daX6_goTogether_0 (i := 14) rfl
theorem dX6_goTogether_23 : decode cX6_goTogether 23 = .ok (.ireturn, 1) := dq daX6_goTogether_0 (i := 15) rfl
theorem daX6_fits_0 : dchk cX6_fits [(0, .lload_n 0, 1), (1, .invokestatic 28, 3), (4, .istore_n 3, 1), (5, .iconst 0, 1), (6, .istore 4, 2), (8, .iload 4, 2), (10, .iload_n 3, 1), (11, .if_icmp .ge 34, 3), (14, .lload_n 0, 1), (15, .iload 4, 2), (17, .invokestatic 31, 3), (20, .istore 5, 2), (22, .iload_n 2, 1), (23, .iload 5, 2), (25, .if_icmp .eq 12, 3), (28, .iload_n 2, 1), (29, .iload 5, 2), (31, .invokestatic 35, 3), (34, .ifCond .ne 5, 3), (37, .iconst 0, 1), (38, .ireturn, 1), (39, .iinc 4 1, 3), (42, .goto (-34), 3), (45, .iconst 1, 1), (46, .ireturn, 1)] = true := by decide +kernel
theorem dX6_fits_0 : decode cX6_fits 0 = .ok (.lload_n 0, 1) := dq daX6_fits_0 (i := 0) rfl
theorem dX6_fits_1 : decode cX6_fits 1 = .ok (.invokestatic 28, 3) := dq daX6_fits_0 (i := 1) rfl
theorem dX6_fits_4 : decode cX6_fits 4 = .ok (.istore_n 3, 1) := dq daX6_fits_0 (i := 2) rfl
theorem dX6_fits_5 : decode cX6_fits 5 = .ok (.iconst 0, 1) := dq daX6_fits_0 (i := 3) rfl
theorem dX6_fits_6 : decode cX6_fits 6 = .ok (.istore 4, 2) := dq daX6_fits_0 (i := 4) rfl
theorem dX6_fits_8 : decode cX6_fits 8 = .ok (.iload 4, 2) := dq daX6_fits_0 (i := 5) rfl
theorem dX6_fits_10 : decode cX6_fits 10 = .ok (.iload_n 3, 1) := dq daX6_fits_0 (i := 6) rfl
theorem dX6_fits_11 : decode cX6_fits 11 = .ok (.if_icmp .ge 34, 3) := dq daX6_fits_0 (i := 7) rfl
theorem dX6_fits_14 : decode cX6_fits 14 = .ok (.lload_n 0, 1) := dq daX6_fits_0 (i := 8) rfl
theorem dX6_fits_15 : decode cX6_fits 15 = .ok (.iload 4, 2) := dq daX6_fits_0 (i := 9) rfl
theorem dX6_fits_17 : decode cX6_fits 17 = .ok (.invokestatic 31, 3) := dq daX6_fits_0 (i := 10) rfl
theorem dX6_fits_20 : decode cX6_fits 20 = .ok (.istore 5, 2) := dq daX6_fits_0 (i := 11) rfl
theorem dX6_fits_22 : decode cX6_fits 22 = .ok (.iload_n 2, 1) := dq daX6_fits_0 (i := 12) rfl
theorem dX6_fits_23 : decode cX6_fits 23 = .ok (.iload 5, 2) := dq daX6_fits_0 (i := 13) rfl
theorem dX6_fits_25 : decode cX6_fits 25 = .ok (.if_icmp .eq 12, 3) := dq daX6_fits_0 (i := 14) rfl
theorem dX6_fits_28 : decode cX6_fits 28 = .ok (.iload_n 2, 1) := dq daX6_fits_0 (i := 15) rfl
theorem dX6_fits_29 : decode cX6_fits 29 = .ok (.iload 5, 2) := dq daX6_fits_0 (i := 16) rfl
theorem dX6_fits_31 : decode cX6_fits 31 = .ok (.invokestatic 35, 3) := dq daX6_fits_0 (i := 17) rfl
theorem dX6_fits_34 : decode cX6_fits 34 = .ok (.ifCond .ne 5, 3) := dq daX6_fits_0 (i := 18) rfl
theorem dX6_fits_37 : decode cX6_fits 37 = .ok (.iconst 0, 1) := dq daX6_fits_0 (i := 19) rfl
theorem dX6_fits_38 : decode cX6_fits 38 = .ok (.ireturn, 1) := dq daX6_fits_0 (i := 20) rfl
theorem dX6_fits_39 : decode cX6_fits 39 = .ok (.iinc 4 1, 3) := dq daX6_fits_0 (i := 21) rfl
theorem dX6_fits_42 : decode cX6_fits 42 = .ok (.goto (-34), 3) := dq daX6_fits_0 (i := 22) rfl
theorem dX6_fits_45 : decode cX6_fits 45 = .ok (.iconst 1, 1) := dq daX6_fits_0 (i := 23) rfl
theorem dX6_fits_46 : decode cX6_fits 46 = .ok (.ireturn, 1) := dq daX6_fits_0 (i := 24) rfl
theorem daX6_under_0 : dchk cX6_under [(0, .iload_n 0, 1), (1, .ifCond .ne 11, 3), (4, .iconst 1, 1), (5, .iload_n 1, 1), (6, .ishl, 1), (7, .iconst 2, 1), (8, .isub, 1), (9, .goto 4, 3), (12, .iload_n 0, 1), (13, .ireturn, 1)] = true := by decide +kernel
theorem dX6_under_0 : decode cX6_under 0 = .ok (.iload_n 0, 1) := dq daX6_under_0 (i := 0) rfl
theorem dX6_under_1 : decode cX6_under 1 = .ok (.ifCond .ne 11, 3) := dq daX6_under_0 (i := 1) rfl
theorem dX6_under_4 : decode cX6_under 4 = .ok (.iconst 1, 1) := dq daX6_under_0 (i := 2) rfl
theorem dX6_under_5 : decode cX6_under 5 = .ok (.iload_n 1, 1) := dq daX6_under_0 (i := 3) rfl
theorem dX6_under_6 : decode cX6_under 6 = .ok (.ishl, 1) := dq daX6_under_0 (i := 4) rfl
theorem dX6_under_7 : decode cX6_under 7 = .ok (.iconst 2, 1) := dq daX6_under_0 (i := 5) rfl
theorem dX6_under_8 : decode cX6_under 8 = .ok (.isub, 1) := dq daX6_under_0 (i := 6) rfl
theorem dX6_under_9 : decode cX6_under 9 = .ok (.goto 4, 3) := dq daX6_under_0 (i := 7) rfl
theorem dX6_under_12 : decode cX6_under 12 = .ok (.iload_n 0, 1) := dq daX6_under_0 (i := 8) rfl
theorem dX6_under_13 : decode cX6_under 13 = .ok (.ireturn, 1) := dq daX6_under_0 (i := 9) rfl
theorem daX6_lesserWithin_0 : dchk cX6_lesserWithin [(0, .lconst 0, 1), (1, .lstore_n 3, 1), (2, .lload_n 0, 1), (3, .invokestatic 28, 3), (6, .istore 5, 2), (8, .iconst 0, 1), (9, .istore 6, 2), (11, .iload 6, 2), (13, .iload 5, 2), (15, .if_icmp .ge 39, 3), (18, .lload_n 0, 1), (19, .iload 6, 2), (21, .invokestatic 31, 3), (24, .istore 7, 2), (26, .iload 7, 2), (28, .iload_n 2, 1), (29, .if_icmp .eq 19, 3), (32, .iload 7, 2), (34, .iload_n 2, 1), (35, .invokestatic 39, 3), (38, .ifCond .eq 10, 3), (41, .lload_n 3, 1), (42, .iload 7, 2), (44, .invokestatic 42, 3), (47, .lstore_n 3, 1), (48, .iinc 6 1, 3), (51, .goto (-40), 3), (54, .lload_n 3, 1), (55, .lreturn, 1)] = true := by decide +kernel
theorem dX6_lesserWithin_0 : decode cX6_lesserWithin 0 = .ok (.lconst 0, 1) := dq daX6_lesserWithin_0 (i := 0) rfl
theorem dX6_lesserWithin_1 : decode cX6_lesserWithin 1 = .ok (.lstore_n 3, 1) := dq daX6_lesserWithin_0 (i := 1) rfl
theorem dX6_lesserWithin_2 : decode cX6_lesserWithin 2 = .ok (.lload_n 0, 1) := dq daX6_lesserWithin_0 (i := 2) rfl
theorem dX6_lesserWithin_3 : decode cX6_lesserWithin 3 = .ok (.invokestatic 28, 3) := dq daX6_lesserWithin_0 (i := 3) rfl
theorem dX6_lesserWithin_6 : decode cX6_lesserWithin 6 = .ok (.istore 5, 2) := dq daX6_lesserWithin_0 (i := 4) rfl
theorem dX6_lesserWithin_8 : decode cX6_lesserWithin 8 = .ok (.iconst 0, 1) := dq daX6_lesserWithin_0 (i := 5) rfl
theorem dX6_lesserWithin_9 : decode cX6_lesserWithin 9 = .ok (.istore 6, 2) := dq daX6_lesserWithin_0 (i := 6) rfl
theorem dX6_lesserWithin_11 : decode cX6_lesserWithin 11 = .ok (.iload 6, 2) := dq daX6_lesserWithin_0 (i := 7) rfl
theorem dX6_lesserWithin_13 : decode cX6_lesserWithin 13 = .ok (.iload 5, 2) := dq daX6_lesserWithin_0 (i := 8) rfl
theorem dX6_lesserWithin_15 : decode cX6_lesserWithin 15 = .ok (.if_icmp .ge 39, 3) := dq daX6_lesserWithin_0 (i := 9) rfl
theorem dX6_lesserWithin_18 : decode cX6_lesserWithin 18 = .ok (.lload_n 0, 1) := dq daX6_lesserWithin_0 (i := 10) rfl
theorem dX6_lesserWithin_19 : decode cX6_lesserWithin 19 = .ok (.iload 6, 2) := dq daX6_lesserWithin_0 (i := 11) rfl
theorem dX6_lesserWithin_21 : decode cX6_lesserWithin 21 = .ok (.invokestatic 31, 3) := dq daX6_lesserWithin_0 (i := 12) rfl
theorem dX6_lesserWithin_24 : decode cX6_lesserWithin 24 = .ok (.istore 7, 2) := dq daX6_lesserWithin_0 (i := 13) rfl
theorem dX6_lesserWithin_26 : decode cX6_lesserWithin 26 = .ok (.iload 7, 2) := dq daX6_lesserWithin_0 (i := 14) rfl
theorem dX6_lesserWithin_28 : decode cX6_lesserWithin 28 = .ok (.iload_n 2, 1) := dq daX6_lesserWithin_0 (i := 15) rfl
theorem dX6_lesserWithin_29 : decode cX6_lesserWithin 29 = .ok (.if_icmp .eq 19, 3) := dq daX6_lesserWithin_0 (i := 16) rfl
theorem dX6_lesserWithin_32 : decode cX6_lesserWithin 32 = .ok (.iload 7, 2) := dq daX6_lesserWithin_0 (i := 17) rfl
theorem dX6_lesserWithin_34 : decode cX6_lesserWithin 34 = .ok (.iload_n 2, 1) := dq daX6_lesserWithin_0 (i := 18) rfl
theorem dX6_lesserWithin_35 : decode cX6_lesserWithin 35 = .ok (.invokestatic 39, 3) := dq daX6_lesserWithin_0 (i := 19) rfl
theorem dX6_lesserWithin_38 : decode cX6_lesserWithin 38 = .ok (.ifCond .eq 10, 3) := dq daX6_lesserWithin_0 (i := 20) rfl
theorem dX6_lesserWithin_41 : decode cX6_lesserWithin 41 = .ok (.lload_n 3, 1) := dq daX6_lesserWithin_0 (i := 21) rfl
theorem dX6_lesserWithin_42 : decode cX6_lesserWithin 42 = .ok (.iload 7, 2) := dq daX6_lesserWithin_0 (i := 22) rfl
theorem dX6_lesserWithin_44 : decode cX6_lesserWithin 44 = .ok (.invokestatic 42, 3) := dq daX6_lesserWithin_0 (i := 23) rfl
theorem dX6_lesserWithin_47 : decode cX6_lesserWithin 47 = .ok (.lstore_n 3, 1) := dq daX6_lesserWithin_0 (i := 24) rfl
theorem dX6_lesserWithin_48 : decode cX6_lesserWithin 48 = .ok (.iinc 6 1, 3) := dq daX6_lesserWithin_0 (i := 25) rfl
theorem dX6_lesserWithin_51 : decode cX6_lesserWithin 51 = .ok (.goto (-40), 3) := dq daX6_lesserWithin_0 (i := 26) rfl
theorem dX6_lesserWithin_54 : decode cX6_lesserWithin 54 = .ok (.lload_n 3, 1) := dq daX6_lesserWithin_0 (i := 27) rfl
theorem dX6_lesserWithin_55 : decode cX6_lesserWithin 55 = .ok (.lreturn, 1) := dq daX6_lesserWithin_0 (i := 28) rfl
theorem daX6_leavesAt_0 : dchk cX6_leavesAt [(0, .lload_n 0, 1), (1, .iload_n 2, 1), (2, .invokestatic 46, 3), (5, .lstore_n 3, 1), (6, .iload_n 2, 1), (7, .istore 5, 2), (9, .lload_n 3, 1), (10, .invokestatic 28, 3), (13, .istore 6, 2), (15, .iconst 0, 1), (16, .istore 7, 2), (18, .iload 7, 2), (20, .iload 6, 2), (22, .if_icmp .ge 22, 3), (25, .iload 5, 2), (27, .lload_n 3, 1), (28, .iload 7, 2), (30, .invokestatic 31, 3), (33, .iconst (-1), 1), (34, .ixor, 1), (35, .iand, 1), (36, .istore 5, 2), (38, .iinc 7 1, 3), (41, .goto (-23), 3), (44, .iload 5, 2), (46, .ireturn, 1)] = true := by decide +kernel
theorem dX6_leavesAt_0 : decode cX6_leavesAt 0 = .ok (.lload_n 0, 1) := dq daX6_leavesAt_0 (i := 0) rfl
theorem dX6_leavesAt_1 : decode cX6_leavesAt 1 = .ok (.iload_n 2, 1) := dq daX6_leavesAt_0 (i := 1) rfl
theorem dX6_leavesAt_2 : decode cX6_leavesAt 2 = .ok (.invokestatic 46, 3) := dq daX6_leavesAt_0 (i := 2) rfl
theorem dX6_leavesAt_5 : decode cX6_leavesAt 5 = .ok (.lstore_n 3, 1) := dq daX6_leavesAt_0 (i := 3) rfl
theorem dX6_leavesAt_6 : decode cX6_leavesAt 6 = .ok (.iload_n 2, 1) := dq daX6_leavesAt_0 (i := 4) rfl
theorem dX6_leavesAt_7 : decode cX6_leavesAt 7 = .ok (.istore 5, 2) := dq daX6_leavesAt_0 (i := 5) rfl
theorem dX6_leavesAt_9 : decode cX6_leavesAt 9 = .ok (.lload_n 3, 1) := dq daX6_leavesAt_0 (i := 6) rfl
theorem dX6_leavesAt_10 : decode cX6_leavesAt 10 = .ok (.invokestatic 28, 3) := dq daX6_leavesAt_0 (i := 7) rfl
theorem dX6_leavesAt_13 : decode cX6_leavesAt 13 = .ok (.istore 6, 2) := dq daX6_leavesAt_0 (i := 8) rfl
theorem dX6_leavesAt_15 : decode cX6_leavesAt 15 = .ok (.iconst 0, 1) := dq daX6_leavesAt_0 (i := 9) rfl
theorem dX6_leavesAt_16 : decode cX6_leavesAt 16 = .ok (.istore 7, 2) := dq daX6_leavesAt_0 (i := 10) rfl
theorem dX6_leavesAt_18 : decode cX6_leavesAt 18 = .ok (.iload 7, 2) := dq daX6_leavesAt_0 (i := 11) rfl
theorem dX6_leavesAt_20 : decode cX6_leavesAt 20 = .ok (.iload 6, 2) := dq daX6_leavesAt_0 (i := 12) rfl
theorem dX6_leavesAt_22 : decode cX6_leavesAt 22 = .ok (.if_icmp .ge 22, 3) := dq daX6_leavesAt_0 (i := 13) rfl
theorem dX6_leavesAt_25 : decode cX6_leavesAt 25 = .ok (.iload 5, 2) := dq daX6_leavesAt_0 (i := 14) rfl
theorem dX6_leavesAt_27 : decode cX6_leavesAt 27 = .ok (.lload_n 3, 1) := dq daX6_leavesAt_0 (i := 15) rfl
theorem dX6_leavesAt_28 : decode cX6_leavesAt 28 = .ok (.iload 7, 2) := dq daX6_leavesAt_0 (i := 16) rfl
theorem dX6_leavesAt_30 : decode cX6_leavesAt 30 = .ok (.invokestatic 31, 3) := dq daX6_leavesAt_0 (i := 17) rfl
theorem dX6_leavesAt_33 : decode cX6_leavesAt 33 = .ok (.iconst (-1), 1) := dq daX6_leavesAt_0 (i := 18) rfl
theorem dX6_leavesAt_34 : decode cX6_leavesAt 34 = .ok (.ixor, 1) := dq daX6_leavesAt_0 (i := 19) rfl
theorem dX6_leavesAt_35 : decode cX6_leavesAt 35 = .ok (.iand, 1) := dq daX6_leavesAt_0 (i := 20) rfl
theorem dX6_leavesAt_36 : decode cX6_leavesAt 36 = .ok (.istore 5, 2) := dq daX6_leavesAt_0 (i := 21) rfl
theorem dX6_leavesAt_38 : decode cX6_leavesAt 38 = .ok (.iinc 7 1, 3) := dq daX6_leavesAt_0 (i := 22) rfl
theorem dX6_leavesAt_41 : decode cX6_leavesAt 41 = .ok (.goto (-23), 3) := dq daX6_leavesAt_0 (i := 23) rfl
theorem dX6_leavesAt_44 : decode cX6_leavesAt 44 = .ok (.iload 5, 2) := dq daX6_leavesAt_0 (i := 24) rfl
theorem dX6_leavesAt_46 : decode cX6_leavesAt 46 = .ok (.ireturn, 1) := dq daX6_leavesAt_0 (i := 25) rfl
theorem daX6_edgesDown_0 : dchk cX6_edgesDown [(0, .lload_n 0, 1), (1, .iload_n 2, 1), (2, .invokestatic 46, 3), (5, .lstore_n 3, 1), (6, .iconst 0, 1), (7, .istore 5, 2), (9, .lload_n 3, 1), (10, .invokestatic 28, 3), (13, .istore 6, 2), (15, .iconst 0, 1), (16, .istore 7, 2), (18, .iload 7, 2), (20, .iload 6, 2), (22, .if_icmp .ge 25, 3), (25, .lload_n 3, 1), (26, .lload_n 3, 1), (27, .iload 7, 2), (29, .invokestatic 31, 3), (32, .invokestatic 49, 3), (35, .ifCond .eq 6, 3), (38, .iinc 5 1, 3), (41, .iinc 7 1, 3), (44, .goto (-26), 3), (47, .iload 5, 2), (49, .ireturn, 1)] = true := by decide +kernel
theorem dX6_edgesDown_0 : decode cX6_edgesDown 0 = .ok (.lload_n 0, 1) := dq daX6_edgesDown_0 (i := 0) rfl
theorem dX6_edgesDown_1 : decode cX6_edgesDown 1 = .ok (.iload_n 2, 1) := dq daX6_edgesDown_0 (i := 1) rfl
theorem dX6_edgesDown_2 : decode cX6_edgesDown 2 = .ok (.invokestatic 46, 3) := dq daX6_edgesDown_0 (i := 2) rfl
theorem dX6_edgesDown_5 : decode cX6_edgesDown 5 = .ok (.lstore_n 3, 1) := dq daX6_edgesDown_0 (i := 3) rfl
theorem dX6_edgesDown_6 : decode cX6_edgesDown 6 = .ok (.iconst 0, 1) := dq daX6_edgesDown_0 (i := 4) rfl
theorem dX6_edgesDown_7 : decode cX6_edgesDown 7 = .ok (.istore 5, 2) := dq daX6_edgesDown_0 (i := 5) rfl
theorem dX6_edgesDown_9 : decode cX6_edgesDown 9 = .ok (.lload_n 3, 1) := dq daX6_edgesDown_0 (i := 6) rfl
theorem dX6_edgesDown_10 : decode cX6_edgesDown 10 = .ok (.invokestatic 28, 3) := dq daX6_edgesDown_0 (i := 7) rfl
theorem dX6_edgesDown_13 : decode cX6_edgesDown 13 = .ok (.istore 6, 2) := dq daX6_edgesDown_0 (i := 8) rfl
theorem dX6_edgesDown_15 : decode cX6_edgesDown 15 = .ok (.iconst 0, 1) := dq daX6_edgesDown_0 (i := 9) rfl
theorem dX6_edgesDown_16 : decode cX6_edgesDown 16 = .ok (.istore 7, 2) := dq daX6_edgesDown_0 (i := 10) rfl
theorem dX6_edgesDown_18 : decode cX6_edgesDown 18 = .ok (.iload 7, 2) := dq daX6_edgesDown_0 (i := 11) rfl
theorem dX6_edgesDown_20 : decode cX6_edgesDown 20 = .ok (.iload 6, 2) := dq daX6_edgesDown_0 (i := 12) rfl
theorem dX6_edgesDown_22 : decode cX6_edgesDown 22 = .ok (.if_icmp .ge 25, 3) := dq daX6_edgesDown_0 (i := 13) rfl
theorem dX6_edgesDown_25 : decode cX6_edgesDown 25 = .ok (.lload_n 3, 1) := dq daX6_edgesDown_0 (i := 14) rfl
theorem dX6_edgesDown_26 : decode cX6_edgesDown 26 = .ok (.lload_n 3, 1) := dq daX6_edgesDown_0 (i := 15) rfl
theorem dX6_edgesDown_27 : decode cX6_edgesDown 27 = .ok (.iload 7, 2) := dq daX6_edgesDown_0 (i := 16) rfl
theorem dX6_edgesDown_29 : decode cX6_edgesDown 29 = .ok (.invokestatic 31, 3) := dq daX6_edgesDown_0 (i := 17) rfl
theorem dX6_edgesDown_32 : decode cX6_edgesDown 32 = .ok (.invokestatic 49, 3) := dq daX6_edgesDown_0 (i := 18) rfl
theorem dX6_edgesDown_35 : decode cX6_edgesDown 35 = .ok (.ifCond .eq 6, 3) := dq daX6_edgesDown_0 (i := 19) rfl
theorem dX6_edgesDown_38 : decode cX6_edgesDown 38 = .ok (.iinc 5 1, 3) := dq daX6_edgesDown_0 (i := 20) rfl
theorem dX6_edgesDown_41 : decode cX6_edgesDown 41 = .ok (.iinc 7 1, 3) := dq daX6_edgesDown_0 (i := 21) rfl
theorem dX6_edgesDown_44 : decode cX6_edgesDown 44 = .ok (.goto (-26), 3) := dq daX6_edgesDown_0 (i := 22) rfl
theorem dX6_edgesDown_47 : decode cX6_edgesDown 47 = .ok (.iload 5, 2) := dq daX6_edgesDown_0 (i := 23) rfl
theorem dX6_edgesDown_49 : decode cX6_edgesDown 49 = .ok (.ireturn, 1) := dq daX6_edgesDown_0 (i := 24) rfl
theorem daX6_isOutermost_0 : dchk cX6_isOutermost [(0, .lload_n 0, 1), (1, .invokestatic 28, 3), (4, .istore_n 3, 1), (5, .iconst 0, 1), (6, .istore 4, 2), (8, .iload 4, 2), (10, .iload_n 3, 1), (11, .if_icmp .ge 34, 3), (14, .lload_n 0, 1), (15, .iload 4, 2), (17, .invokestatic 31, 3), (20, .istore 5, 2), (22, .iload 5, 2), (24, .iload_n 2, 1), (25, .if_icmp .eq 14, 3), (28, .iload_n 2, 1), (29, .iload 5, 2), (31, .invokestatic 39, 3), (34, .ifCond .eq 5, 3), (37, .iconst 0, 1), (38, .ireturn, 1), (39, .iinc 4 1, 3), (42, .goto (-34), 3), (45, .iconst 1, 1), (46, .ireturn, 1)] = true := by decide +kernel
theorem dX6_isOutermost_0 : decode cX6_isOutermost 0 = .ok (.lload_n 0, 1) := dq daX6_isOutermost_0 (i := 0) rfl
theorem dX6_isOutermost_1 : decode cX6_isOutermost 1 = .ok (.invokestatic 28, 3) := dq daX6_isOutermost_0 (i := 1) rfl
theorem dX6_isOutermost_4 : decode cX6_isOutermost 4 = .ok (.istore_n 3, 1) := dq daX6_isOutermost_0 (i := 2) rfl
theorem dX6_isOutermost_5 : decode cX6_isOutermost 5 = .ok (.iconst 0, 1) := dq daX6_isOutermost_0 (i := 3) rfl
theorem dX6_isOutermost_6 : decode cX6_isOutermost 6 = .ok (.istore 4, 2) := dq daX6_isOutermost_0 (i := 4) rfl
theorem dX6_isOutermost_8 : decode cX6_isOutermost 8 = .ok (.iload 4, 2) := dq daX6_isOutermost_0 (i := 5) rfl
theorem dX6_isOutermost_10 : decode cX6_isOutermost 10 = .ok (.iload_n 3, 1) := dq daX6_isOutermost_0 (i := 6) rfl
theorem dX6_isOutermost_11 : decode cX6_isOutermost 11 = .ok (.if_icmp .ge 34, 3) := dq daX6_isOutermost_0 (i := 7) rfl
theorem dX6_isOutermost_14 : decode cX6_isOutermost 14 = .ok (.lload_n 0, 1) := dq daX6_isOutermost_0 (i := 8) rfl
theorem dX6_isOutermost_15 : decode cX6_isOutermost 15 = .ok (.iload 4, 2) := dq daX6_isOutermost_0 (i := 9) rfl
theorem dX6_isOutermost_17 : decode cX6_isOutermost 17 = .ok (.invokestatic 31, 3) := dq daX6_isOutermost_0 (i := 10) rfl
theorem dX6_isOutermost_20 : decode cX6_isOutermost 20 = .ok (.istore 5, 2) := dq daX6_isOutermost_0 (i := 11) rfl
theorem dX6_isOutermost_22 : decode cX6_isOutermost 22 = .ok (.iload 5, 2) := dq daX6_isOutermost_0 (i := 12) rfl
theorem dX6_isOutermost_24 : decode cX6_isOutermost 24 = .ok (.iload_n 2, 1) := dq daX6_isOutermost_0 (i := 13) rfl
theorem dX6_isOutermost_25 : decode cX6_isOutermost 25 = .ok (.if_icmp .eq 14, 3) := dq daX6_isOutermost_0 (i := 14) rfl
theorem dX6_isOutermost_28 : decode cX6_isOutermost 28 = .ok (.iload_n 2, 1) := dq daX6_isOutermost_0 (i := 15) rfl
theorem dX6_isOutermost_29 : decode cX6_isOutermost 29 = .ok (.iload 5, 2) := dq daX6_isOutermost_0 (i := 16) rfl
theorem dX6_isOutermost_31 : decode cX6_isOutermost 31 = .ok (.invokestatic 39, 3) := dq daX6_isOutermost_0 (i := 17) rfl
theorem dX6_isOutermost_34 : decode cX6_isOutermost 34 = .ok (.ifCond .eq 5, 3) := dq daX6_isOutermost_0 (i := 18) rfl
theorem dX6_isOutermost_37 : decode cX6_isOutermost 37 = .ok (.iconst 0, 1) := dq daX6_isOutermost_0 (i := 19) rfl
theorem dX6_isOutermost_38 : decode cX6_isOutermost 38 = .ok (.ireturn, 1) := dq daX6_isOutermost_0 (i := 20) rfl
theorem dX6_isOutermost_39 : decode cX6_isOutermost 39 = .ok (.iinc 4 1, 3) := dq daX6_isOutermost_0 (i := 21) rfl
theorem dX6_isOutermost_42 : decode cX6_isOutermost 42 = .ok (.goto (-34), 3) := dq daX6_isOutermost_0 (i := 22) rfl
theorem dX6_isOutermost_45 : decode cX6_isOutermost 45 = .ok (.iconst 1, 1) := dq daX6_isOutermost_0 (i := 23) rfl
theorem dX6_isOutermost_46 : decode cX6_isOutermost 46 = .ok (.ireturn, 1) := dq daX6_isOutermost_0 (i := 24) rfl
theorem daX6_countTrees_0 : dchk cX6_countTrees [(0, .iload_n 0, 1), (1, .iload_n 1, 1), (2, .lconst 0, 1), (3, .iconst 2, 1), (4, .invokestatic 53, 3), (7, .ireturn, 1)] = true := by decide +kernel
theorem dX6_countTrees_0 : decode cX6_countTrees 0 = .ok (.iload_n 0, 1) := dq daX6_countTrees_0 (i := 0) rfl
theorem dX6_countTrees_1 : decode cX6_countTrees 1 = .ok (.iload_n 1, 1) := dq daX6_countTrees_0 (i := 1) rfl
theorem dX6_countTrees_2 : decode cX6_countTrees 2 = .ok (.lconst 0, 1) := dq daX6_countTrees_0 (i := 2) rfl
theorem dX6_countTrees_3 : decode cX6_countTrees 3 = .ok (.iconst 2, 1) := dq daX6_countTrees_0 (i := 3) rfl
theorem dX6_countTrees_4 : decode cX6_countTrees 4 = .ok (.invokestatic 53, 3) := dq daX6_countTrees_0 (i := 4) rfl
theorem dX6_countTrees_7 : decode cX6_countTrees 7 = .ok (.ireturn, 1) := dq daX6_countTrees_0 (i := 5) rfl
theorem daX6_countMore_0 : dchk cX6_countMore [(0, .iload_n 1, 1), (1, .ifCond .gt 5, 3), (4, .iconst 1, 1), (5, .ireturn, 1), (6, .lload_n 2, 1), (7, .invokestatic 28, 3), (10, .iload_n 1, 1), (11, .iadd, 1), (12, .iload_n 0, 1), (13, .iconst 3, 1), (14, .isub, 1), (15, .if_icmp .le 5, 3), (18, .iconst 0, 1), (19, .ireturn, 1), (20, .iconst 0, 1), (21, .istore 5, 2), (23, .iload 4, 2), (25, .istore 6, 2), (27, .iload 6, 2), (29, .iconst 1, 1), (30, .iload_n 0, 1), (31, .ishl, 1), (32, .if_icmp .ge 49, 3), (35, .iload 6, 2), (37, .iload_n 0, 1), (38, .invokestatic 57, 3), (41, .ifCond .eq 34, 3), (44, .lload_n 2, 1), (45, .iload 6, 2), (47, .invokestatic 60, 3), (50, .ifCond .eq 25, 3), (53, .iload 5, 2), (55, .iload_n 0, 1), (56, .iload_n 1, 1), (57, .iconst 1, 1), (58, .isub, 1), (59, .lload_n 2, 1), (60, .iload 6, 2), (62, .invokestatic 42, 3), (65, .iload 6, 2)] = true := by decide +kernel
theorem dX6_countMore_0 : decode cX6_countMore 0 = .ok (.iload_n 1, 1) := dq daX6_countMore_0 (i := 0) rfl
theorem dX6_countMore_1 : decode cX6_countMore 1 = .ok (.ifCond .gt 5, 3) := dq daX6_countMore_0 (i := 1) rfl
theorem dX6_countMore_4 : decode cX6_countMore 4 = .ok (.iconst 1, 1) := dq daX6_countMore_0 (i := 2) rfl
theorem dX6_countMore_5 : decode cX6_countMore 5 = .ok (.ireturn, 1) := dq daX6_countMore_0 (i := 3) rfl
theorem dX6_countMore_6 : decode cX6_countMore 6 = .ok (.lload_n 2, 1) := dq daX6_countMore_0 (i := 4) rfl
theorem dX6_countMore_7 : decode cX6_countMore 7 = .ok (.invokestatic 28, 3) := dq daX6_countMore_0 (i := 5) rfl
theorem dX6_countMore_10 : decode cX6_countMore 10 = .ok (.iload_n 1, 1) := dq daX6_countMore_0 (i := 6) rfl
theorem dX6_countMore_11 : decode cX6_countMore 11 = .ok (.iadd, 1) := dq daX6_countMore_0 (i := 7) rfl
theorem dX6_countMore_12 : decode cX6_countMore 12 = .ok (.iload_n 0, 1) := dq daX6_countMore_0 (i := 8) rfl
theorem dX6_countMore_13 : decode cX6_countMore 13 = .ok (.iconst 3, 1) := dq daX6_countMore_0 (i := 9) rfl
theorem dX6_countMore_14 : decode cX6_countMore 14 = .ok (.isub, 1) := dq daX6_countMore_0 (i := 10) rfl
theorem dX6_countMore_15 : decode cX6_countMore 15 = .ok (.if_icmp .le 5, 3) := dq daX6_countMore_0 (i := 11) rfl
theorem dX6_countMore_18 : decode cX6_countMore 18 = .ok (.iconst 0, 1) := dq daX6_countMore_0 (i := 12) rfl
theorem dX6_countMore_19 : decode cX6_countMore 19 = .ok (.ireturn, 1) := dq daX6_countMore_0 (i := 13) rfl
theorem dX6_countMore_20 : decode cX6_countMore 20 = .ok (.iconst 0, 1) := dq daX6_countMore_0 (i := 14) rfl
theorem dX6_countMore_21 : decode cX6_countMore 21 = .ok (.istore 5, 2) := dq daX6_countMore_0 (i := 15) rfl
theorem dX6_countMore_23 : decode cX6_countMore 23 = .ok (.iload 4, 2) := dq daX6_countMore_0 (i := 16) rfl
theorem dX6_countMore_25 : decode cX6_countMore 25 = .ok (.istore 6, 2) := dq daX6_countMore_0 (i := 17) rfl
theorem dX6_countMore_27 : decode cX6_countMore 27 = .ok (.iload 6, 2) := dq daX6_countMore_0 (i := 18) rfl
theorem dX6_countMore_29 : decode cX6_countMore 29 = .ok (.iconst 1, 1) := dq daX6_countMore_0 (i := 19) rfl
theorem dX6_countMore_30 : decode cX6_countMore 30 = .ok (.iload_n 0, 1) := dq daX6_countMore_0 (i := 20) rfl
theorem dX6_countMore_31 : decode cX6_countMore 31 = .ok (.ishl, 1) := dq daX6_countMore_0 (i := 21) rfl
theorem dX6_countMore_32 : decode cX6_countMore 32 = .ok (.if_icmp .ge 49, 3) := dq daX6_countMore_0 (i := 22) rfl
theorem dX6_countMore_35 : decode cX6_countMore 35 = .ok (.iload 6, 2) := dq daX6_countMore_0 (i := 23) rfl
theorem dX6_countMore_37 : decode cX6_countMore 37 = .ok (.iload_n 0, 1) := dq daX6_countMore_0 (i := 24) rfl
theorem dX6_countMore_38 : decode cX6_countMore 38 = .ok (.invokestatic 57, 3) := dq daX6_countMore_0 (i := 25) rfl
theorem dX6_countMore_41 : decode cX6_countMore 41 = .ok (.ifCond .eq 34, 3) := dq daX6_countMore_0 (i := 26) rfl
theorem dX6_countMore_44 : decode cX6_countMore 44 = .ok (.lload_n 2, 1) := dq daX6_countMore_0 (i := 27) rfl
theorem dX6_countMore_45 : decode cX6_countMore 45 = .ok (.iload 6, 2) := dq daX6_countMore_0 (i := 28) rfl
theorem dX6_countMore_47 : decode cX6_countMore 47 = .ok (.invokestatic 60, 3) := dq daX6_countMore_0 (i := 29) rfl
theorem dX6_countMore_50 : decode cX6_countMore 50 = .ok (.ifCond .eq 25, 3) := dq daX6_countMore_0 (i := 30) rfl
theorem dX6_countMore_53 : decode cX6_countMore 53 = .ok (.iload 5, 2) := dq daX6_countMore_0 (i := 31) rfl
theorem dX6_countMore_55 : decode cX6_countMore 55 = .ok (.iload_n 0, 1) := dq daX6_countMore_0 (i := 32) rfl
theorem dX6_countMore_56 : decode cX6_countMore 56 = .ok (.iload_n 1, 1) := dq daX6_countMore_0 (i := 33) rfl
theorem dX6_countMore_57 : decode cX6_countMore 57 = .ok (.iconst 1, 1) := dq daX6_countMore_0 (i := 34) rfl
theorem dX6_countMore_58 : decode cX6_countMore 58 = .ok (.isub, 1) := dq daX6_countMore_0 (i := 35) rfl
theorem dX6_countMore_59 : decode cX6_countMore 59 = .ok (.lload_n 2, 1) := dq daX6_countMore_0 (i := 36) rfl
theorem dX6_countMore_60 : decode cX6_countMore 60 = .ok (.iload 6, 2) := dq daX6_countMore_0 (i := 37) rfl
theorem dX6_countMore_62 : decode cX6_countMore 62 = .ok (.invokestatic 42, 3) := dq daX6_countMore_0 (i := 38) rfl
theorem dX6_countMore_65 : decode cX6_countMore 65 = .ok (.iload 6, 2) := dq daX6_countMore_0 (i := 39) rfl
theorem daX6_countMore_40 : dchk cX6_countMore [(67, .iconst 2, 1), (68, .iadd, 1), (69, .invokestatic 53, 3), (72, .iadd, 1), (73, .istore 5, 2), (75, .iinc 6 2, 3), (78, .goto (-51), 3), (81, .iload 5, 2), (83, .ireturn, 1)] = true := by decide +kernel
theorem dX6_countMore_67 : decode cX6_countMore 67 = .ok (.iconst 2, 1) := dq daX6_countMore_40 (i := 0) rfl
theorem dX6_countMore_68 : decode cX6_countMore 68 = .ok (.iadd, 1) := dq daX6_countMore_40 (i := 1) rfl
theorem dX6_countMore_69 : decode cX6_countMore 69 = .ok (.invokestatic 53, 3) := dq daX6_countMore_40 (i := 2) rfl
theorem dX6_countMore_72 : decode cX6_countMore 72 = .ok (.iadd, 1) := dq daX6_countMore_40 (i := 3) rfl
theorem dX6_countMore_73 : decode cX6_countMore 73 = .ok (.istore 5, 2) := dq daX6_countMore_40 (i := 4) rfl
theorem dX6_countMore_75 : decode cX6_countMore 75 = .ok (.iinc 6 2, 3) := dq daX6_countMore_40 (i := 5) rfl
theorem dX6_countMore_78 : decode cX6_countMore 78 = .ok (.goto (-51), 3) := dq daX6_countMore_40 (i := 6) rfl
theorem dX6_countMore_81 : decode cX6_countMore 81 = .ok (.iload 5, 2) := dq daX6_countMore_40 (i := 7) rfl
theorem dX6_countMore_83 : decode cX6_countMore 83 = .ok (.ireturn, 1) := dq daX6_countMore_40 (i := 8) rfl
theorem daX6_treeAt_0 : dchk cX6_treeAt [(0, .lconst 0, 1), (1, .lstore_n 3, 1), (2, .iconst 2, 1), (3, .istore 5, 2), (5, .iload_n 2, 1), (6, .istore 6, 2), (8, .iload_n 1, 1), (9, .iconst 1, 1), (10, .isub, 1), (11, .istore 7, 2), (13, .iload 7, 2), (15, .ifCond .lt 114, 3), (18, .iconst 0, 1), (19, .istore 8, 2), (21, .iload 5, 2), (23, .istore 9, 2), (25, .iload 9, 2), (27, .iconst 1, 1), (28, .iload_n 0, 1), (29, .ishl, 1), (30, .if_icmp .ge 86, 3), (33, .iload 8, 2), (35, .ifCond .ne 81, 3), (38, .iload 9, 2), (40, .iload_n 0, 1), (41, .invokestatic 57, 3), (44, .ifCond .eq 66, 3), (47, .lload_n 3, 1), (48, .iload 9, 2), (50, .invokestatic 60, 3), (53, .ifCond .ne 6, 3), (56, .goto 54, 3), (59, .iload_n 0, 1), (60, .iload 7, 2), (62, .lload_n 3, 1), (63, .iload 9, 2), (65, .invokestatic 42, 3), (68, .iload 9, 2), (70, .iconst 2, 1), (71, .iadd, 1)] = true := by decide +kernel
theorem dX6_treeAt_0 : decode cX6_treeAt 0 = .ok (.lconst 0, 1) := dq daX6_treeAt_0 (i := 0) rfl
theorem dX6_treeAt_1 : decode cX6_treeAt 1 = .ok (.lstore_n 3, 1) := dq daX6_treeAt_0 (i := 1) rfl
theorem dX6_treeAt_2 : decode cX6_treeAt 2 = .ok (.iconst 2, 1) := dq daX6_treeAt_0 (i := 2) rfl
theorem dX6_treeAt_3 : decode cX6_treeAt 3 = .ok (.istore 5, 2) := dq daX6_treeAt_0 (i := 3) rfl
theorem dX6_treeAt_5 : decode cX6_treeAt 5 = .ok (.iload_n 2, 1) := dq daX6_treeAt_0 (i := 4) rfl
theorem dX6_treeAt_6 : decode cX6_treeAt 6 = .ok (.istore 6, 2) := dq daX6_treeAt_0 (i := 5) rfl
theorem dX6_treeAt_8 : decode cX6_treeAt 8 = .ok (.iload_n 1, 1) := dq daX6_treeAt_0 (i := 6) rfl
theorem dX6_treeAt_9 : decode cX6_treeAt 9 = .ok (.iconst 1, 1) := dq daX6_treeAt_0 (i := 7) rfl
theorem dX6_treeAt_10 : decode cX6_treeAt 10 = .ok (.isub, 1) := dq daX6_treeAt_0 (i := 8) rfl
theorem dX6_treeAt_11 : decode cX6_treeAt 11 = .ok (.istore 7, 2) := dq daX6_treeAt_0 (i := 9) rfl
theorem dX6_treeAt_13 : decode cX6_treeAt 13 = .ok (.iload 7, 2) := dq daX6_treeAt_0 (i := 10) rfl
theorem dX6_treeAt_15 : decode cX6_treeAt 15 = .ok (.ifCond .lt 114, 3) := dq daX6_treeAt_0 (i := 11) rfl
theorem dX6_treeAt_18 : decode cX6_treeAt 18 = .ok (.iconst 0, 1) := dq daX6_treeAt_0 (i := 12) rfl
theorem dX6_treeAt_19 : decode cX6_treeAt 19 = .ok (.istore 8, 2) := dq daX6_treeAt_0 (i := 13) rfl
theorem dX6_treeAt_21 : decode cX6_treeAt 21 = .ok (.iload 5, 2) := dq daX6_treeAt_0 (i := 14) rfl
theorem dX6_treeAt_23 : decode cX6_treeAt 23 = .ok (.istore 9, 2) := dq daX6_treeAt_0 (i := 15) rfl
theorem dX6_treeAt_25 : decode cX6_treeAt 25 = .ok (.iload 9, 2) := dq daX6_treeAt_0 (i := 16) rfl
theorem dX6_treeAt_27 : decode cX6_treeAt 27 = .ok (.iconst 1, 1) := dq daX6_treeAt_0 (i := 17) rfl
theorem dX6_treeAt_28 : decode cX6_treeAt 28 = .ok (.iload_n 0, 1) := dq daX6_treeAt_0 (i := 18) rfl
theorem dX6_treeAt_29 : decode cX6_treeAt 29 = .ok (.ishl, 1) := dq daX6_treeAt_0 (i := 19) rfl
theorem dX6_treeAt_30 : decode cX6_treeAt 30 = .ok (.if_icmp .ge 86, 3) := dq daX6_treeAt_0 (i := 20) rfl
theorem dX6_treeAt_33 : decode cX6_treeAt 33 = .ok (.iload 8, 2) := dq daX6_treeAt_0 (i := 21) rfl
theorem dX6_treeAt_35 : decode cX6_treeAt 35 = .ok (.ifCond .ne 81, 3) := dq daX6_treeAt_0 (i := 22) rfl
theorem dX6_treeAt_38 : decode cX6_treeAt 38 = .ok (.iload 9, 2) := dq daX6_treeAt_0 (i := 23) rfl
theorem dX6_treeAt_40 : decode cX6_treeAt 40 = .ok (.iload_n 0, 1) := dq daX6_treeAt_0 (i := 24) rfl
theorem dX6_treeAt_41 : decode cX6_treeAt 41 = .ok (.invokestatic 57, 3) := dq daX6_treeAt_0 (i := 25) rfl
theorem dX6_treeAt_44 : decode cX6_treeAt 44 = .ok (.ifCond .eq 66, 3) := dq daX6_treeAt_0 (i := 26) rfl
theorem dX6_treeAt_47 : decode cX6_treeAt 47 = .ok (.lload_n 3, 1) := dq daX6_treeAt_0 (i := 27) rfl
theorem dX6_treeAt_48 : decode cX6_treeAt 48 = .ok (.iload 9, 2) := dq daX6_treeAt_0 (i := 28) rfl
theorem dX6_treeAt_50 : decode cX6_treeAt 50 = .ok (.invokestatic 60, 3) := dq daX6_treeAt_0 (i := 29) rfl
theorem dX6_treeAt_53 : decode cX6_treeAt 53 = .ok (.ifCond .ne 6, 3) := dq daX6_treeAt_0 (i := 30) rfl
theorem dX6_treeAt_56 : decode cX6_treeAt 56 = .ok (.goto 54, 3) := dq daX6_treeAt_0 (i := 31) rfl
theorem dX6_treeAt_59 : decode cX6_treeAt 59 = .ok (.iload_n 0, 1) := dq daX6_treeAt_0 (i := 32) rfl
theorem dX6_treeAt_60 : decode cX6_treeAt 60 = .ok (.iload 7, 2) := dq daX6_treeAt_0 (i := 33) rfl
theorem dX6_treeAt_62 : decode cX6_treeAt 62 = .ok (.lload_n 3, 1) := dq daX6_treeAt_0 (i := 34) rfl
theorem dX6_treeAt_63 : decode cX6_treeAt 63 = .ok (.iload 9, 2) := dq daX6_treeAt_0 (i := 35) rfl
theorem dX6_treeAt_65 : decode cX6_treeAt 65 = .ok (.invokestatic 42, 3) := dq daX6_treeAt_0 (i := 36) rfl
theorem dX6_treeAt_68 : decode cX6_treeAt 68 = .ok (.iload 9, 2) := dq daX6_treeAt_0 (i := 37) rfl
theorem dX6_treeAt_70 : decode cX6_treeAt 70 = .ok (.iconst 2, 1) := dq daX6_treeAt_0 (i := 38) rfl
theorem dX6_treeAt_71 : decode cX6_treeAt 71 = .ok (.iadd, 1) := dq daX6_treeAt_0 (i := 39) rfl
theorem daX6_treeAt_40 : dchk cX6_treeAt [(72, .invokestatic 53, 3), (75, .istore 10, 2), (77, .iload 6, 2), (79, .iload 10, 2), (81, .if_icmp .ge 22, 3), (84, .lload_n 3, 1), (85, .iload 9, 2), (87, .invokestatic 42, 3), (90, .lstore_n 3, 1), (91, .iload 9, 2), (93, .iconst 2, 1), (94, .iadd, 1), (95, .istore 5, 2), (97, .iconst 1, 1), (98, .istore 8, 2), (100, .goto 10, 3), (103, .iload 6, 2), (105, .iload 10, 2), (107, .isub, 1), (108, .istore 6, 2), (110, .iinc 9 2, 3), (113, .goto (-88), 3), (116, .iload 8, 2), (118, .ifCond .ne 5, 3), (121, .lconst 0, 1), (122, .lreturn, 1), (123, .iinc 7 (-1), 3), (126, .goto (-113), 3), (129, .lload_n 3, 1), (130, .lreturn, 1)] = true := by decide +kernel
theorem dX6_treeAt_72 : decode cX6_treeAt 72 = .ok (.invokestatic 53, 3) := dq daX6_treeAt_40 (i := 0) rfl
theorem dX6_treeAt_75 : decode cX6_treeAt 75 = .ok (.istore 10, 2) := dq daX6_treeAt_40 (i := 1) rfl
theorem dX6_treeAt_77 : decode cX6_treeAt 77 = .ok (.iload 6, 2) := dq daX6_treeAt_40 (i := 2) rfl
theorem dX6_treeAt_79 : decode cX6_treeAt 79 = .ok (.iload 10, 2) := dq daX6_treeAt_40 (i := 3) rfl
theorem dX6_treeAt_81 : decode cX6_treeAt 81 = .ok (.if_icmp .ge 22, 3) := dq daX6_treeAt_40 (i := 4) rfl
theorem dX6_treeAt_84 : decode cX6_treeAt 84 = .ok (.lload_n 3, 1) := dq daX6_treeAt_40 (i := 5) rfl
theorem dX6_treeAt_85 : decode cX6_treeAt 85 = .ok (.iload 9, 2) := dq daX6_treeAt_40 (i := 6) rfl
theorem dX6_treeAt_87 : decode cX6_treeAt 87 = .ok (.invokestatic 42, 3) := dq daX6_treeAt_40 (i := 7) rfl
theorem dX6_treeAt_90 : decode cX6_treeAt 90 = .ok (.lstore_n 3, 1) := dq daX6_treeAt_40 (i := 8) rfl
theorem dX6_treeAt_91 : decode cX6_treeAt 91 = .ok (.iload 9, 2) := dq daX6_treeAt_40 (i := 9) rfl
theorem dX6_treeAt_93 : decode cX6_treeAt 93 = .ok (.iconst 2, 1) := dq daX6_treeAt_40 (i := 10) rfl
theorem dX6_treeAt_94 : decode cX6_treeAt 94 = .ok (.iadd, 1) := dq daX6_treeAt_40 (i := 11) rfl
theorem dX6_treeAt_95 : decode cX6_treeAt 95 = .ok (.istore 5, 2) := dq daX6_treeAt_40 (i := 12) rfl
theorem dX6_treeAt_97 : decode cX6_treeAt 97 = .ok (.iconst 1, 1) := dq daX6_treeAt_40 (i := 13) rfl
theorem dX6_treeAt_98 : decode cX6_treeAt 98 = .ok (.istore 8, 2) := dq daX6_treeAt_40 (i := 14) rfl
theorem dX6_treeAt_100 : decode cX6_treeAt 100 = .ok (.goto 10, 3) := dq daX6_treeAt_40 (i := 15) rfl
theorem dX6_treeAt_103 : decode cX6_treeAt 103 = .ok (.iload 6, 2) := dq daX6_treeAt_40 (i := 16) rfl
theorem dX6_treeAt_105 : decode cX6_treeAt 105 = .ok (.iload 10, 2) := dq daX6_treeAt_40 (i := 17) rfl
theorem dX6_treeAt_107 : decode cX6_treeAt 107 = .ok (.isub, 1) := dq daX6_treeAt_40 (i := 18) rfl
theorem dX6_treeAt_108 : decode cX6_treeAt 108 = .ok (.istore 6, 2) := dq daX6_treeAt_40 (i := 19) rfl
theorem dX6_treeAt_110 : decode cX6_treeAt 110 = .ok (.iinc 9 2, 3) := dq daX6_treeAt_40 (i := 20) rfl
theorem dX6_treeAt_113 : decode cX6_treeAt 113 = .ok (.goto (-88), 3) := dq daX6_treeAt_40 (i := 21) rfl
theorem dX6_treeAt_116 : decode cX6_treeAt 116 = .ok (.iload 8, 2) := dq daX6_treeAt_40 (i := 22) rfl
theorem dX6_treeAt_118 : decode cX6_treeAt 118 = .ok (.ifCond .ne 5, 3) := dq daX6_treeAt_40 (i := 23) rfl
theorem dX6_treeAt_121 : decode cX6_treeAt 121 = .ok (.lconst 0, 1) := dq daX6_treeAt_40 (i := 24) rfl
theorem dX6_treeAt_122 : decode cX6_treeAt 122 = .ok (.lreturn, 1) := dq daX6_treeAt_40 (i := 25) rfl
theorem dX6_treeAt_123 : decode cX6_treeAt 123 = .ok (.iinc 7 (-1), 3) := dq daX6_treeAt_40 (i := 26) rfl
theorem dX6_treeAt_126 : decode cX6_treeAt 126 = .ok (.goto (-113), 3) := dq daX6_treeAt_40 (i := 27) rfl
theorem dX6_treeAt_129 : decode cX6_treeAt 129 = .ok (.lload_n 3, 1) := dq daX6_treeAt_40 (i := 28) rfl
theorem dX6_treeAt_130 : decode cX6_treeAt 130 = .ok (.lreturn, 1) := dq daX6_treeAt_40 (i := 29) rfl
theorem daX6_forgetLeaf_0 : dchk cX6_forgetLeaf [(0, .lconst 0, 1), (1, .lstore 4, 2), (3, .lload_n 0, 1), (4, .invokestatic 28, 3), (7, .istore 6, 2), (9, .iconst 0, 1), (10, .istore 7, 2), (12, .iload 7, 2), (14, .iload 6, 2), (16, .if_icmp .ge 42, 3), (19, .lload_n 0, 1), (20, .iload 7, 2), (22, .invokestatic 31, 3), (25, .iload_n 2, 1), (26, .iload_n 3, 1), (27, .invokestatic 63, 3), (30, .istore 8, 2), (32, .iload 8, 2), (34, .iload_n 2, 1), (35, .iconst 1, 1), (36, .isub, 1), (37, .invokestatic 57, 3), (40, .ifCond .eq 12, 3), (43, .lload 4, 2), (45, .iload 8, 2), (47, .invokestatic 42, 3), (50, .lstore 4, 2), (52, .iinc 7 1, 3), (55, .goto (-43), 3), (58, .lload 4, 2), (60, .lreturn, 1)] = true := by decide +kernel
theorem dX6_forgetLeaf_0 : decode cX6_forgetLeaf 0 = .ok (.lconst 0, 1) := dq daX6_forgetLeaf_0 (i := 0) rfl
theorem dX6_forgetLeaf_1 : decode cX6_forgetLeaf 1 = .ok (.lstore 4, 2) := dq daX6_forgetLeaf_0 (i := 1) rfl
theorem dX6_forgetLeaf_3 : decode cX6_forgetLeaf 3 = .ok (.lload_n 0, 1) := dq daX6_forgetLeaf_0 (i := 2) rfl
theorem dX6_forgetLeaf_4 : decode cX6_forgetLeaf 4 = .ok (.invokestatic 28, 3) := dq daX6_forgetLeaf_0 (i := 3) rfl
theorem dX6_forgetLeaf_7 : decode cX6_forgetLeaf 7 = .ok (.istore 6, 2) := dq daX6_forgetLeaf_0 (i := 4) rfl
theorem dX6_forgetLeaf_9 : decode cX6_forgetLeaf 9 = .ok (.iconst 0, 1) := dq daX6_forgetLeaf_0 (i := 5) rfl
theorem dX6_forgetLeaf_10 : decode cX6_forgetLeaf 10 = .ok (.istore 7, 2) := dq daX6_forgetLeaf_0 (i := 6) rfl
theorem dX6_forgetLeaf_12 : decode cX6_forgetLeaf 12 = .ok (.iload 7, 2) := dq daX6_forgetLeaf_0 (i := 7) rfl
theorem dX6_forgetLeaf_14 : decode cX6_forgetLeaf 14 = .ok (.iload 6, 2) := dq daX6_forgetLeaf_0 (i := 8) rfl
theorem dX6_forgetLeaf_16 : decode cX6_forgetLeaf 16 = .ok (.if_icmp .ge 42, 3) := dq daX6_forgetLeaf_0 (i := 9) rfl
theorem dX6_forgetLeaf_19 : decode cX6_forgetLeaf 19 = .ok (.lload_n 0, 1) := dq daX6_forgetLeaf_0 (i := 10) rfl
theorem dX6_forgetLeaf_20 : decode cX6_forgetLeaf 20 = .ok (.iload 7, 2) := dq daX6_forgetLeaf_0 (i := 11) rfl
theorem dX6_forgetLeaf_22 : decode cX6_forgetLeaf 22 = .ok (.invokestatic 31, 3) := dq daX6_forgetLeaf_0 (i := 12) rfl
theorem dX6_forgetLeaf_25 : decode cX6_forgetLeaf 25 = .ok (.iload_n 2, 1) := dq daX6_forgetLeaf_0 (i := 13) rfl
theorem dX6_forgetLeaf_26 : decode cX6_forgetLeaf 26 = .ok (.iload_n 3, 1) := dq daX6_forgetLeaf_0 (i := 14) rfl
theorem dX6_forgetLeaf_27 : decode cX6_forgetLeaf 27 = .ok (.invokestatic 63, 3) := dq daX6_forgetLeaf_0 (i := 15) rfl
theorem dX6_forgetLeaf_30 : decode cX6_forgetLeaf 30 = .ok (.istore 8, 2) := dq daX6_forgetLeaf_0 (i := 16) rfl
theorem dX6_forgetLeaf_32 : decode cX6_forgetLeaf 32 = .ok (.iload 8, 2) := dq daX6_forgetLeaf_0 (i := 17) rfl
theorem dX6_forgetLeaf_34 : decode cX6_forgetLeaf 34 = .ok (.iload_n 2, 1) := dq daX6_forgetLeaf_0 (i := 18) rfl
theorem dX6_forgetLeaf_35 : decode cX6_forgetLeaf 35 = .ok (.iconst 1, 1) := dq daX6_forgetLeaf_0 (i := 19) rfl
theorem dX6_forgetLeaf_36 : decode cX6_forgetLeaf 36 = .ok (.isub, 1) := dq daX6_forgetLeaf_0 (i := 20) rfl
theorem dX6_forgetLeaf_37 : decode cX6_forgetLeaf 37 = .ok (.invokestatic 57, 3) := dq daX6_forgetLeaf_0 (i := 21) rfl
theorem dX6_forgetLeaf_40 : decode cX6_forgetLeaf 40 = .ok (.ifCond .eq 12, 3) := dq daX6_forgetLeaf_0 (i := 22) rfl
theorem dX6_forgetLeaf_43 : decode cX6_forgetLeaf 43 = .ok (.lload 4, 2) := dq daX6_forgetLeaf_0 (i := 23) rfl
theorem dX6_forgetLeaf_45 : decode cX6_forgetLeaf 45 = .ok (.iload 8, 2) := dq daX6_forgetLeaf_0 (i := 24) rfl
theorem dX6_forgetLeaf_47 : decode cX6_forgetLeaf 47 = .ok (.invokestatic 42, 3) := dq daX6_forgetLeaf_0 (i := 25) rfl
theorem dX6_forgetLeaf_50 : decode cX6_forgetLeaf 50 = .ok (.lstore 4, 2) := dq daX6_forgetLeaf_0 (i := 26) rfl
theorem dX6_forgetLeaf_52 : decode cX6_forgetLeaf 52 = .ok (.iinc 7 1, 3) := dq daX6_forgetLeaf_0 (i := 27) rfl
theorem dX6_forgetLeaf_55 : decode cX6_forgetLeaf 55 = .ok (.goto (-43), 3) := dq daX6_forgetLeaf_0 (i := 28) rfl
theorem dX6_forgetLeaf_58 : decode cX6_forgetLeaf 58 = .ok (.lload 4, 2) := dq daX6_forgetLeaf_0 (i := 29) rfl
theorem dX6_forgetLeaf_60 : decode cX6_forgetLeaf 60 = .ok (.lreturn, 1) := dq daX6_forgetLeaf_0 (i := 30) rfl
theorem daX6_leftWithout_0 : dchk cX6_leftWithout [(0, .iload_n 0, 1), (1, .iconst 1, 1), (2, .iload_n 2, 1), (3, .ishl, 1), (4, .iconst 1, 1), (5, .isub, 1), (6, .iand, 1), (7, .istore_n 3, 1), (8, .iload_n 0, 1), (9, .iload_n 2, 1), (10, .iconst 1, 1), (11, .iadd, 1), (12, .ishr, 1), (13, .iload_n 2, 1), (14, .ishl, 1), (15, .istore 4, 2), (17, .iload_n 3, 1), (18, .iload 4, 2), (20, .ior, 1), (21, .istore 5, 2), (23, .iconst 1, 1), (24, .iload_n 1, 1), (25, .iconst 1, 1), (26, .isub, 1), (27, .ishl, 1), (28, .iconst 1, 1), (29, .isub, 1), (30, .istore 6, 2), (32, .iload 5, 2), (34, .iconst 1, 1), (35, .iand, 1), (36, .ifCond .eq 11, 3), (39, .iload 6, 2), (41, .iload 5, 2), (43, .ixor, 1), (44, .goto 5, 3), (47, .iload 5, 2), (49, .ireturn, 1)] = true := by decide +kernel
theorem dX6_leftWithout_0 : decode cX6_leftWithout 0 = .ok (.iload_n 0, 1) := dq daX6_leftWithout_0 (i := 0) rfl
theorem dX6_leftWithout_1 : decode cX6_leftWithout 1 = .ok (.iconst 1, 1) := dq daX6_leftWithout_0 (i := 1) rfl
theorem dX6_leftWithout_2 : decode cX6_leftWithout 2 = .ok (.iload_n 2, 1) := dq daX6_leftWithout_0 (i := 2) rfl
theorem dX6_leftWithout_3 : decode cX6_leftWithout 3 = .ok (.ishl, 1) := dq daX6_leftWithout_0 (i := 3) rfl
theorem dX6_leftWithout_4 : decode cX6_leftWithout 4 = .ok (.iconst 1, 1) := dq daX6_leftWithout_0 (i := 4) rfl
theorem dX6_leftWithout_5 : decode cX6_leftWithout 5 = .ok (.isub, 1) := dq daX6_leftWithout_0 (i := 5) rfl
theorem dX6_leftWithout_6 : decode cX6_leftWithout 6 = .ok (.iand, 1) := dq daX6_leftWithout_0 (i := 6) rfl
theorem dX6_leftWithout_7 : decode cX6_leftWithout 7 = .ok (.istore_n 3, 1) := dq daX6_leftWithout_0 (i := 7) rfl
theorem dX6_leftWithout_8 : decode cX6_leftWithout 8 = .ok (.iload_n 0, 1) := dq daX6_leftWithout_0 (i := 8) rfl
theorem dX6_leftWithout_9 : decode cX6_leftWithout 9 = .ok (.iload_n 2, 1) := dq daX6_leftWithout_0 (i := 9) rfl
theorem dX6_leftWithout_10 : decode cX6_leftWithout 10 = .ok (.iconst 1, 1) := dq daX6_leftWithout_0 (i := 10) rfl
theorem dX6_leftWithout_11 : decode cX6_leftWithout 11 = .ok (.iadd, 1) := dq daX6_leftWithout_0 (i := 11) rfl
theorem dX6_leftWithout_12 : decode cX6_leftWithout 12 = .ok (.ishr, 1) := dq daX6_leftWithout_0 (i := 12) rfl
theorem dX6_leftWithout_13 : decode cX6_leftWithout 13 = .ok (.iload_n 2, 1) := dq daX6_leftWithout_0 (i := 13) rfl
theorem dX6_leftWithout_14 : decode cX6_leftWithout 14 = .ok (.ishl, 1) := dq daX6_leftWithout_0 (i := 14) rfl
theorem dX6_leftWithout_15 : decode cX6_leftWithout 15 = .ok (.istore 4, 2) := dq daX6_leftWithout_0 (i := 15) rfl
theorem dX6_leftWithout_17 : decode cX6_leftWithout 17 = .ok (.iload_n 3, 1) := dq daX6_leftWithout_0 (i := 16) rfl
theorem dX6_leftWithout_18 : decode cX6_leftWithout 18 = .ok (.iload 4, 2) := dq daX6_leftWithout_0 (i := 17) rfl
theorem dX6_leftWithout_20 : decode cX6_leftWithout 20 = .ok (.ior, 1) := dq daX6_leftWithout_0 (i := 18) rfl
theorem dX6_leftWithout_21 : decode cX6_leftWithout 21 = .ok (.istore 5, 2) := dq daX6_leftWithout_0 (i := 19) rfl
theorem dX6_leftWithout_23 : decode cX6_leftWithout 23 = .ok (.iconst 1, 1) := dq daX6_leftWithout_0 (i := 20) rfl
theorem dX6_leftWithout_24 : decode cX6_leftWithout 24 = .ok (.iload_n 1, 1) := dq daX6_leftWithout_0 (i := 21) rfl
theorem dX6_leftWithout_25 : decode cX6_leftWithout 25 = .ok (.iconst 1, 1) := dq daX6_leftWithout_0 (i := 22) rfl
theorem dX6_leftWithout_26 : decode cX6_leftWithout 26 = .ok (.isub, 1) := dq daX6_leftWithout_0 (i := 23) rfl
theorem dX6_leftWithout_27 : decode cX6_leftWithout 27 = .ok (.ishl, 1) := dq daX6_leftWithout_0 (i := 24) rfl
theorem dX6_leftWithout_28 : decode cX6_leftWithout 28 = .ok (.iconst 1, 1) := dq daX6_leftWithout_0 (i := 25) rfl
theorem dX6_leftWithout_29 : decode cX6_leftWithout 29 = .ok (.isub, 1) := dq daX6_leftWithout_0 (i := 26) rfl
theorem dX6_leftWithout_30 : decode cX6_leftWithout 30 = .ok (.istore 6, 2) := dq daX6_leftWithout_0 (i := 27) rfl
theorem dX6_leftWithout_32 : decode cX6_leftWithout 32 = .ok (.iload 5, 2) := dq daX6_leftWithout_0 (i := 28) rfl
theorem dX6_leftWithout_34 : decode cX6_leftWithout 34 = .ok (.iconst 1, 1) := dq daX6_leftWithout_0 (i := 29) rfl
theorem dX6_leftWithout_35 : decode cX6_leftWithout 35 = .ok (.iand, 1) := dq daX6_leftWithout_0 (i := 30) rfl
theorem dX6_leftWithout_36 : decode cX6_leftWithout 36 = .ok (.ifCond .eq 11, 3) := dq daX6_leftWithout_0 (i := 31) rfl
theorem dX6_leftWithout_39 : decode cX6_leftWithout 39 = .ok (.iload 6, 2) := dq daX6_leftWithout_0 (i := 32) rfl
theorem dX6_leftWithout_41 : decode cX6_leftWithout 41 = .ok (.iload 5, 2) := dq daX6_leftWithout_0 (i := 33) rfl
theorem dX6_leftWithout_43 : decode cX6_leftWithout 43 = .ok (.ixor, 1) := dq daX6_leftWithout_0 (i := 34) rfl
theorem dX6_leftWithout_44 : decode cX6_leftWithout 44 = .ok (.goto 5, 3) := dq daX6_leftWithout_0 (i := 35) rfl
theorem dX6_leftWithout_47 : decode cX6_leftWithout 47 = .ok (.iload 5, 2) := dq daX6_leftWithout_0 (i := 36) rfl
theorem dX6_leftWithout_49 : decode cX6_leftWithout 49 = .ok (.ireturn, 1) := dq daX6_leftWithout_0 (i := 37) rfl
theorem daX7_init_0 : dchk cX7_init [(0, .aload_n 0, 1), (1, .invokespecial 3, 3), (4, .aload_n 0, 1), (5, .bipush 60, 2), (7, .newarray .int, 2), (9, .putfield 11, 3), (12, .return_, 1)] = true := by decide +kernel
theorem dX7_init_0 : decode cX7_init 0 = .ok (.aload_n 0, 1) := dq daX7_init_0 (i := 0) rfl
theorem dX7_init_1 : decode cX7_init 1 = .ok (.invokespecial 3, 3) := dq daX7_init_0 (i := 1) rfl
theorem dX7_init_4 : decode cX7_init 4 = .ok (.aload_n 0, 1) := dq daX7_init_0 (i := 2) rfl
theorem dX7_init_5 : decode cX7_init 5 = .ok (.bipush 60, 2) := dq daX7_init_0 (i := 3) rfl
theorem dX7_init_7 : decode cX7_init 7 = .ok (.newarray .int, 2) := dq daX7_init_0 (i := 4) rfl
theorem dX7_init_9 : decode cX7_init 9 = .ok (.putfield 11, 3) := dq daX7_init_0 (i := 5) rfl
theorem dX7_init_12 : decode cX7_init 12 = .ok (.return_, 1) := dq daX7_init_0 (i := 6) rfl
theorem daX7_add_0 : dchk cX7_add [(0, .aload_n 0, 1), (1, .getfield 15, 3), (4, .bipush 60, 2), (6, .if_icmp .ge 23, 3), (9, .aload_n 0, 1), (10, .getfield 11, 3), (13, .aload_n 0, 1), (14, .getfield 15, 3), (17, .iload_n 1, 1), (18, .iastore, 1), (19, .aload_n 0, 1), (20, .dup, 1), (21, .getfield 15, 3), (24, .iconst 1, 1), (25, .iadd, 1), (26, .putfield 15, 3), (29, .return_, 1)] = true := by decide +kernel
theorem dX7_add_0 : decode cX7_add 0 = .ok (.aload_n 0, 1) := dq daX7_add_0 (i := 0) rfl
theorem dX7_add_1 : decode cX7_add 1 = .ok (.getfield 15, 3) := dq daX7_add_0 (i := 1) rfl
theorem dX7_add_4 : decode cX7_add 4 = .ok (.bipush 60, 2) := dq daX7_add_0 (i := 2) rfl
theorem dX7_add_6 : decode cX7_add 6 = .ok (.if_icmp .ge 23, 3) := dq daX7_add_0 (i := 3) rfl
theorem dX7_add_9 : decode cX7_add 9 = .ok (.aload_n 0, 1) := dq daX7_add_0 (i := 4) rfl
theorem dX7_add_10 : decode cX7_add 10 = .ok (.getfield 11, 3) := dq daX7_add_0 (i := 5) rfl
theorem dX7_add_13 : decode cX7_add 13 = .ok (.aload_n 0, 1) := dq daX7_add_0 (i := 6) rfl
theorem dX7_add_14 : decode cX7_add 14 = .ok (.getfield 15, 3) := dq daX7_add_0 (i := 7) rfl
theorem dX7_add_17 : decode cX7_add 17 = .ok (.iload_n 1, 1) := dq daX7_add_0 (i := 8) rfl
theorem dX7_add_18 : decode cX7_add 18 = .ok (.iastore, 1) := dq daX7_add_0 (i := 9) rfl
theorem dX7_add_19 : decode cX7_add 19 = .ok (.aload_n 0, 1) := dq daX7_add_0 (i := 10) rfl
theorem dX7_add_20 : decode cX7_add 20 = .ok (.dup, 1) := dq daX7_add_0 (i := 11) rfl
theorem dX7_add_21 : decode cX7_add 21 = .ok (.getfield 15, 3) := dq daX7_add_0 (i := 12) rfl
theorem dX7_add_24 : decode cX7_add 24 = .ok (.iconst 1, 1) := dq daX7_add_0 (i := 13) rfl
theorem dX7_add_25 : decode cX7_add 25 = .ok (.iadd, 1) := dq daX7_add_0 (i := 14) rfl
theorem dX7_add_26 : decode cX7_add 26 = .ok (.putfield 15, 3) := dq daX7_add_0 (i := 15) rfl
theorem dX7_add_29 : decode cX7_add 29 = .ok (.return_, 1) := dq daX7_add_0 (i := 16) rfl
theorem daX7_byteAt_0 : dchk cX7_byteAt [(0, .iload_n 1, 1), (1, .ifCond .lt 26, 3), (4, .iload_n 1, 1), (5, .aload_n 0, 1), (6, .getfield 15, 3), (9, .if_icmp .ge 18, 3), (12, .iload_n 1, 1), (13, .bipush 60, 2), (15, .if_icmp .ge 12, 3), (18, .aload_n 0, 1), (19, .getfield 11, 3), (22, .iload_n 1, 1), (23, .iaload, 1), (24, .goto 4, 3), (27, .iconst (-1), 1), (28, .ireturn, 1)] = true := by decide +kernel
theorem dX7_byteAt_0 : decode cX7_byteAt 0 = .ok (.iload_n 1, 1) := dq daX7_byteAt_0 (i := 0) rfl
theorem dX7_byteAt_1 : decode cX7_byteAt 1 = .ok (.ifCond .lt 26, 3) := dq daX7_byteAt_0 (i := 1) rfl
theorem dX7_byteAt_4 : decode cX7_byteAt 4 = .ok (.iload_n 1, 1) := dq daX7_byteAt_0 (i := 2) rfl
theorem dX7_byteAt_5 : decode cX7_byteAt 5 = .ok (.aload_n 0, 1) := dq daX7_byteAt_0 (i := 3) rfl
theorem dX7_byteAt_6 : decode cX7_byteAt 6 = .ok (.getfield 15, 3) := dq daX7_byteAt_0 (i := 4) rfl
theorem dX7_byteAt_9 : decode cX7_byteAt 9 = .ok (.if_icmp .ge 18, 3) := dq daX7_byteAt_0 (i := 5) rfl
theorem dX7_byteAt_12 : decode cX7_byteAt 12 = .ok (.iload_n 1, 1) := dq daX7_byteAt_0 (i := 6) rfl
theorem dX7_byteAt_13 : decode cX7_byteAt 13 = .ok (.bipush 60, 2) := dq daX7_byteAt_0 (i := 7) rfl
theorem dX7_byteAt_15 : decode cX7_byteAt 15 = .ok (.if_icmp .ge 12, 3) := dq daX7_byteAt_0 (i := 8) rfl
theorem dX7_byteAt_18 : decode cX7_byteAt 18 = .ok (.aload_n 0, 1) := dq daX7_byteAt_0 (i := 9) rfl
theorem dX7_byteAt_19 : decode cX7_byteAt 19 = .ok (.getfield 11, 3) := dq daX7_byteAt_0 (i := 10) rfl
theorem dX7_byteAt_22 : decode cX7_byteAt 22 = .ok (.iload_n 1, 1) := dq daX7_byteAt_0 (i := 11) rfl
theorem dX7_byteAt_23 : decode cX7_byteAt 23 = .ok (.iaload, 1) := dq daX7_byteAt_0 (i := 12) rfl
theorem dX7_byteAt_24 : decode cX7_byteAt 24 = .ok (.goto 4, 3) := dq daX7_byteAt_0 (i := 13) rfl
theorem dX7_byteAt_27 : decode cX7_byteAt 27 = .ok (.iconst (-1), 1) := dq daX7_byteAt_0 (i := 14) rfl
theorem dX7_byteAt_28 : decode cX7_byteAt 28 = .ok (.ireturn, 1) := dq daX7_byteAt_0 (i := 15) rfl
theorem daX7_isFigure_0 : dchk cX7_isFigure [(0, .aload_n 0, 1), (1, .iload_n 1, 1), (2, .invokevirtual 19, 3), (5, .istore_n 2, 1), (6, .iload_n 2, 1), (7, .bipush 48, 2), (9, .if_icmp .lt 13, 3), (12, .iload_n 2, 1), (13, .bipush 57, 2), (15, .if_icmp .gt 7, 3), (18, .iconst 1, 1), (19, .goto 4, 3), (22, .iconst 0, 1), (23, .ireturn, 1)] = true := by decide +kernel
theorem dX7_isFigure_0 : decode cX7_isFigure 0 = .ok (.aload_n 0, 1) := dq daX7_isFigure_0 (i := 0) rfl
theorem dX7_isFigure_1 : decode cX7_isFigure 1 = .ok (.iload_n 1, 1) := dq daX7_isFigure_0 (i := 1) rfl
theorem dX7_isFigure_2 : decode cX7_isFigure 2 = .ok (.invokevirtual 19, 3) := dq daX7_isFigure_0 (i := 2) rfl
theorem dX7_isFigure_5 : decode cX7_isFigure 5 = .ok (.istore_n 2, 1) := dq daX7_isFigure_0 (i := 3) rfl
theorem dX7_isFigure_6 : decode cX7_isFigure 6 = .ok (.iload_n 2, 1) := dq daX7_isFigure_0 (i := 4) rfl
theorem dX7_isFigure_7 : decode cX7_isFigure 7 = .ok (.bipush 48, 2) := dq daX7_isFigure_0 (i := 5) rfl
theorem dX7_isFigure_9 : decode cX7_isFigure 9 = .ok (.if_icmp .lt 13, 3) := dq daX7_isFigure_0 (i := 6) rfl
theorem dX7_isFigure_12 : decode cX7_isFigure 12 = .ok (.iload_n 2, 1) := dq daX7_isFigure_0 (i := 7) rfl
theorem dX7_isFigure_13 : decode cX7_isFigure 13 = .ok (.bipush 57, 2) := dq daX7_isFigure_0 (i := 8) rfl
theorem dX7_isFigure_15 : decode cX7_isFigure 15 = .ok (.if_icmp .gt 7, 3) := dq daX7_isFigure_0 (i := 9) rfl
theorem dX7_isFigure_18 : decode cX7_isFigure 18 = .ok (.iconst 1, 1) := dq daX7_isFigure_0 (i := 10) rfl
theorem dX7_isFigure_19 : decode cX7_isFigure 19 = .ok (.goto 4, 3) := dq daX7_isFigure_0 (i := 11) rfl
theorem dX7_isFigure_22 : decode cX7_isFigure 22 = .ok (.iconst 0, 1) := dq daX7_isFigure_0 (i := 12) rfl
theorem dX7_isFigure_23 : decode cX7_isFigure 23 = .ok (.ireturn, 1) := dq daX7_isFigure_0 (i := 13) rfl
theorem daX7_figureAt_0 : dchk cX7_figureAt [(0, .aload_n 0, 1), (1, .iload_n 1, 1), (2, .invokevirtual 19, 3), (5, .bipush 48, 2), (7, .isub, 1), (8, .ireturn, 1)] = true := by decide +kernel
theorem dX7_figureAt_0 : decode cX7_figureAt 0 = .ok (.aload_n 0, 1) := dq daX7_figureAt_0 (i := 0) rfl
theorem dX7_figureAt_1 : decode cX7_figureAt 1 = .ok (.iload_n 1, 1) := dq daX7_figureAt_0 (i := 1) rfl
theorem dX7_figureAt_2 : decode cX7_figureAt 2 = .ok (.invokevirtual 19, 3) := dq daX7_figureAt_0 (i := 2) rfl
theorem dX7_figureAt_5 : decode cX7_figureAt 5 = .ok (.bipush 48, 2) := dq daX7_figureAt_0 (i := 3) rfl
theorem dX7_figureAt_7 : decode cX7_figureAt 7 = .ok (.isub, 1) := dq daX7_figureAt_0 (i := 4) rfl
theorem dX7_figureAt_8 : decode cX7_figureAt 8 = .ok (.ireturn, 1) := dq daX7_figureAt_0 (i := 5) rfl
theorem daX7_firstOf_0 : dchk cX7_firstOf [(0, .iconst 0, 1), (1, .istore_n 3, 1), (2, .iload_n 3, 1), (3, .iload_n 2, 1), (4, .if_icmp .ge 20, 3), (7, .aload_n 0, 1), (8, .iload_n 3, 1), (9, .invokevirtual 19, 3), (12, .iload_n 1, 1), (13, .if_icmp .ne 5, 3), (16, .iload_n 3, 1), (17, .ireturn, 1), (18, .iinc 3 1, 3), (21, .goto (-19), 3), (24, .iconst (-1), 1), (25, .ireturn, 1)] = true := by decide +kernel
theorem dX7_firstOf_0 : decode cX7_firstOf 0 = .ok (.iconst 0, 1) := dq daX7_firstOf_0 (i := 0) rfl
theorem dX7_firstOf_1 : decode cX7_firstOf 1 = .ok (.istore_n 3, 1) := dq daX7_firstOf_0 (i := 1) rfl
theorem dX7_firstOf_2 : decode cX7_firstOf 2 = .ok (.iload_n 3, 1) := dq daX7_firstOf_0 (i := 2) rfl
theorem dX7_firstOf_3 : decode cX7_firstOf 3 = .ok (.iload_n 2, 1) := dq daX7_firstOf_0 (i := 3) rfl
theorem dX7_firstOf_4 : decode cX7_firstOf 4 = .ok (.if_icmp .ge 20, 3) := dq daX7_firstOf_0 (i := 4) rfl
theorem dX7_firstOf_7 : decode cX7_firstOf 7 = .ok (.aload_n 0, 1) := dq daX7_firstOf_0 (i := 5) rfl
theorem dX7_firstOf_8 : decode cX7_firstOf 8 = .ok (.iload_n 3, 1) := dq daX7_firstOf_0 (i := 6) rfl
theorem dX7_firstOf_9 : decode cX7_firstOf 9 = .ok (.invokevirtual 19, 3) := dq daX7_firstOf_0 (i := 7) rfl
theorem dX7_firstOf_12 : decode cX7_firstOf 12 = .ok (.iload_n 1, 1) := dq daX7_firstOf_0 (i := 8) rfl
theorem dX7_firstOf_13 : decode cX7_firstOf 13 = .ok (.if_icmp .ne 5, 3) := dq daX7_firstOf_0 (i := 9) rfl
theorem dX7_firstOf_16 : decode cX7_firstOf 16 = .ok (.iload_n 3, 1) := dq daX7_firstOf_0 (i := 10) rfl
theorem dX7_firstOf_17 : decode cX7_firstOf 17 = .ok (.ireturn, 1) := dq daX7_firstOf_0 (i := 11) rfl
theorem dX7_firstOf_18 : decode cX7_firstOf 18 = .ok (.iinc 3 1, 3) := dq daX7_firstOf_0 (i := 12) rfl
theorem dX7_firstOf_21 : decode cX7_firstOf 21 = .ok (.goto (-19), 3) := dq daX7_firstOf_0 (i := 13) rfl
theorem dX7_firstOf_24 : decode cX7_firstOf 24 = .ok (.iconst (-1), 1) := dq daX7_firstOf_0 (i := 14) rfl
theorem dX7_firstOf_25 : decode cX7_firstOf 25 = .ok (.ireturn, 1) := dq daX7_firstOf_0 (i := 15) rfl
theorem daX7_timesAhead_0 : dchk cX7_timesAhead [(0, .iconst 0, 1), (1, .istore_n 3, 1), (2, .iconst 0, 1), (3, .istore 4, 2), (5, .iload 4, 2), (7, .iload_n 2, 1), (8, .if_icmp .ge 22, 3), (11, .aload_n 0, 1), (12, .iload 4, 2), (14, .invokevirtual 19, 3), (17, .iload_n 1, 1), (18, .if_icmp .ne 6, 3), (21, .iinc 3 1, 3), (24, .iinc 4 1, 3), (27, .goto (-22), 3), (30, .iload_n 3, 1), (31, .ireturn, 1)] = true := by decide +kernel
theorem dX7_timesAhead_0 : decode cX7_timesAhead 0 = .ok (.iconst 0, 1) := dq daX7_timesAhead_0 (i := 0) rfl
theorem dX7_timesAhead_1 : decode cX7_timesAhead 1 = .ok (.istore_n 3, 1) := dq daX7_timesAhead_0 (i := 1) rfl
theorem dX7_timesAhead_2 : decode cX7_timesAhead 2 = .ok (.iconst 0, 1) := dq daX7_timesAhead_0 (i := 2) rfl
theorem dX7_timesAhead_3 : decode cX7_timesAhead 3 = .ok (.istore 4, 2) := dq daX7_timesAhead_0 (i := 3) rfl
theorem dX7_timesAhead_5 : decode cX7_timesAhead 5 = .ok (.iload 4, 2) := dq daX7_timesAhead_0 (i := 4) rfl
theorem dX7_timesAhead_7 : decode cX7_timesAhead 7 = .ok (.iload_n 2, 1) := dq daX7_timesAhead_0 (i := 5) rfl
theorem dX7_timesAhead_8 : decode cX7_timesAhead 8 = .ok (.if_icmp .ge 22, 3) := dq daX7_timesAhead_0 (i := 6) rfl
theorem dX7_timesAhead_11 : decode cX7_timesAhead 11 = .ok (.aload_n 0, 1) := dq daX7_timesAhead_0 (i := 7) rfl
theorem dX7_timesAhead_12 : decode cX7_timesAhead 12 = .ok (.iload 4, 2) := dq daX7_timesAhead_0 (i := 8) rfl
theorem dX7_timesAhead_14 : decode cX7_timesAhead 14 = .ok (.invokevirtual 19, 3) := dq daX7_timesAhead_0 (i := 9) rfl
theorem dX7_timesAhead_17 : decode cX7_timesAhead 17 = .ok (.iload_n 1, 1) := dq daX7_timesAhead_0 (i := 10) rfl
theorem dX7_timesAhead_18 : decode cX7_timesAhead 18 = .ok (.if_icmp .ne 6, 3) := dq daX7_timesAhead_0 (i := 11) rfl
theorem dX7_timesAhead_21 : decode cX7_timesAhead 21 = .ok (.iinc 3 1, 3) := dq daX7_timesAhead_0 (i := 12) rfl
theorem dX7_timesAhead_24 : decode cX7_timesAhead 24 = .ok (.iinc 4 1, 3) := dq daX7_timesAhead_0 (i := 13) rfl
theorem dX7_timesAhead_27 : decode cX7_timesAhead 27 = .ok (.goto (-22), 3) := dq daX7_timesAhead_0 (i := 14) rfl
theorem dX7_timesAhead_30 : decode cX7_timesAhead 30 = .ok (.iload_n 3, 1) := dq daX7_timesAhead_0 (i := 15) rfl
theorem dX7_timesAhead_31 : decode cX7_timesAhead 31 = .ok (.ireturn, 1) := dq daX7_timesAhead_0 (i := 16) rfl
theorem daX8_init_0 : dchk cX8_init [(0, .aload_n 0, 1), (1, .invokespecial 3, 3), (4, .aload_n 0, 1), (5, .new 9, 3), (8, .dup, 1), (9, .invokespecial 11, 3), (12, .putfield 12, 3), (15, .aload_n 0, 1), (16, .new 9, 3), (19, .dup, 1), (20, .invokespecial 11, 3), (23, .putfield 18, 3), (26, .aload_n 0, 1), (27, .new 21, 3), (30, .dup, 1), (31, .invokespecial 23, 3), (34, .putfield 24, 3), (37, .aload_n 0, 1), (38, .new 28, 3), (41, .dup, 1), (42, .invokespecial 30, 3), (45, .putfield 31, 3), (48, .aload_n 0, 1), (49, .new 35, 3), (52, .dup, 1), (53, .invokespecial 37, 3), (56, .putfield 38, 3), (59, .aload_n 0, 1), (60, .aload_n 0, 1), (61, .getfield 38, 3), (64, .getfield 42, 3), (67, .putfield 46, 3), (70, .aload_n 0, 1), (71, .new 47, 3), (74, .dup, 1), (75, .invokespecial 49, 3), (78, .putfield 50, 3), (81, .aload_n 0, 1), (82, .bipush 6, 2), (84, .anewarray 54, 3)] = true := by decide +kernel
theorem dX8_init_0 : decode cX8_init 0 = .ok (.aload_n 0, 1) := dq daX8_init_0 (i := 0) rfl
theorem dX8_init_1 : decode cX8_init 1 = .ok (.invokespecial 3, 3) := dq daX8_init_0 (i := 1) rfl
theorem dX8_init_4 : decode cX8_init 4 = .ok (.aload_n 0, 1) := dq daX8_init_0 (i := 2) rfl
theorem dX8_init_5 : decode cX8_init 5 = .ok (.new 9, 3) := dq daX8_init_0 (i := 3) rfl
theorem dX8_init_8 : decode cX8_init 8 = .ok (.dup, 1) := dq daX8_init_0 (i := 4) rfl
theorem dX8_init_9 : decode cX8_init 9 = .ok (.invokespecial 11, 3) := dq daX8_init_0 (i := 5) rfl
theorem dX8_init_12 : decode cX8_init 12 = .ok (.putfield 12, 3) := dq daX8_init_0 (i := 6) rfl
theorem dX8_init_15 : decode cX8_init 15 = .ok (.aload_n 0, 1) := dq daX8_init_0 (i := 7) rfl
theorem dX8_init_16 : decode cX8_init 16 = .ok (.new 9, 3) := dq daX8_init_0 (i := 8) rfl
theorem dX8_init_19 : decode cX8_init 19 = .ok (.dup, 1) := dq daX8_init_0 (i := 9) rfl
theorem dX8_init_20 : decode cX8_init 20 = .ok (.invokespecial 11, 3) := dq daX8_init_0 (i := 10) rfl
theorem dX8_init_23 : decode cX8_init 23 = .ok (.putfield 18, 3) := dq daX8_init_0 (i := 11) rfl
theorem dX8_init_26 : decode cX8_init 26 = .ok (.aload_n 0, 1) := dq daX8_init_0 (i := 12) rfl
theorem dX8_init_27 : decode cX8_init 27 = .ok (.new 21, 3) := dq daX8_init_0 (i := 13) rfl
theorem dX8_init_30 : decode cX8_init 30 = .ok (.dup, 1) := dq daX8_init_0 (i := 14) rfl
theorem dX8_init_31 : decode cX8_init 31 = .ok (.invokespecial 23, 3) := dq daX8_init_0 (i := 15) rfl
theorem dX8_init_34 : decode cX8_init 34 = .ok (.putfield 24, 3) := dq daX8_init_0 (i := 16) rfl
theorem dX8_init_37 : decode cX8_init 37 = .ok (.aload_n 0, 1) := dq daX8_init_0 (i := 17) rfl
theorem dX8_init_38 : decode cX8_init 38 = .ok (.new 28, 3) := dq daX8_init_0 (i := 18) rfl
theorem dX8_init_41 : decode cX8_init 41 = .ok (.dup, 1) := dq daX8_init_0 (i := 19) rfl
theorem dX8_init_42 : decode cX8_init 42 = .ok (.invokespecial 30, 3) := dq daX8_init_0 (i := 20) rfl
theorem dX8_init_45 : decode cX8_init 45 = .ok (.putfield 31, 3) := dq daX8_init_0 (i := 21) rfl
theorem dX8_init_48 : decode cX8_init 48 = .ok (.aload_n 0, 1) := dq daX8_init_0 (i := 22) rfl
theorem dX8_init_49 : decode cX8_init 49 = .ok (.new 35, 3) := dq daX8_init_0 (i := 23) rfl
theorem dX8_init_52 : decode cX8_init 52 = .ok (.dup, 1) := dq daX8_init_0 (i := 24) rfl
theorem dX8_init_53 : decode cX8_init 53 = .ok (.invokespecial 37, 3) := dq daX8_init_0 (i := 25) rfl
theorem dX8_init_56 : decode cX8_init 56 = .ok (.putfield 38, 3) := dq daX8_init_0 (i := 26) rfl
theorem dX8_init_59 : decode cX8_init 59 = .ok (.aload_n 0, 1) := dq daX8_init_0 (i := 27) rfl
theorem dX8_init_60 : decode cX8_init 60 = .ok (.aload_n 0, 1) := dq daX8_init_0 (i := 28) rfl
theorem dX8_init_61 : decode cX8_init 61 = .ok (.getfield 38, 3) := dq daX8_init_0 (i := 29) rfl
theorem dX8_init_64 : decode cX8_init 64 = .ok (.getfield 42, 3) := dq daX8_init_0 (i := 30) rfl
theorem dX8_init_67 : decode cX8_init 67 = .ok (.putfield 46, 3) := dq daX8_init_0 (i := 31) rfl
theorem dX8_init_70 : decode cX8_init 70 = .ok (.aload_n 0, 1) := dq daX8_init_0 (i := 32) rfl
theorem dX8_init_71 : decode cX8_init 71 = .ok (.new 47, 3) := dq daX8_init_0 (i := 33) rfl
theorem dX8_init_74 : decode cX8_init 74 = .ok (.dup, 1) := dq daX8_init_0 (i := 34) rfl
theorem dX8_init_75 : decode cX8_init 75 = .ok (.invokespecial 49, 3) := dq daX8_init_0 (i := 35) rfl
theorem dX8_init_78 : decode cX8_init 78 = .ok (.putfield 50, 3) := dq daX8_init_0 (i := 36) rfl
theorem dX8_init_81 : decode cX8_init 81 = .ok (.aload_n 0, 1) := dq daX8_init_0 (i := 37) rfl
theorem dX8_init_82 : decode cX8_init 82 = .ok (.bipush 6, 2) := dq daX8_init_0 (i := 38) rfl
theorem dX8_init_84 : decode cX8_init 84 = .ok (.anewarray 54, 3) := dq daX8_init_0 (i := 39) rfl
theorem daX8_init_40 : dchk cX8_init [(87, .putfield 56, 3), (90, .iconst 0, 1), (91, .istore_n 1, 1), (92, .iload_n 1, 1), (93, .bipush 6, 2), (95, .if_icmp .ge 22, 3), (98, .aload_n 0, 1), (99, .getfield 56, 3), (102, .iload_n 1, 1), (103, .new 54, 3), (106, .dup, 1), (107, .invokespecial 60, 3), (110, .aastore, 1), (111, .iinc 1 1, 3), (114, .goto (-22), 3), (117, .return_, 1)] = true := by decide +kernel
theorem dX8_init_87 : decode cX8_init 87 = .ok (.putfield 56, 3) := dq daX8_init_40 (i := 0) rfl
theorem dX8_init_90 : decode cX8_init 90 = .ok (.iconst 0, 1) := dq daX8_init_40 (i := 1) rfl
theorem dX8_init_91 : decode cX8_init 91 = .ok (.istore_n 1, 1) := dq daX8_init_40 (i := 2) rfl
theorem dX8_init_92 : decode cX8_init 92 = .ok (.iload_n 1, 1) := dq daX8_init_40 (i := 3) rfl
theorem dX8_init_93 : decode cX8_init 93 = .ok (.bipush 6, 2) := dq daX8_init_40 (i := 4) rfl
theorem dX8_init_95 : decode cX8_init 95 = .ok (.if_icmp .ge 22, 3) := dq daX8_init_40 (i := 5) rfl
theorem dX8_init_98 : decode cX8_init 98 = .ok (.aload_n 0, 1) := dq daX8_init_40 (i := 6) rfl
theorem dX8_init_99 : decode cX8_init 99 = .ok (.getfield 56, 3) := dq daX8_init_40 (i := 7) rfl
theorem dX8_init_102 : decode cX8_init 102 = .ok (.iload_n 1, 1) := dq daX8_init_40 (i := 8) rfl
theorem dX8_init_103 : decode cX8_init 103 = .ok (.new 54, 3) := dq daX8_init_40 (i := 9) rfl
theorem dX8_init_106 : decode cX8_init 106 = .ok (.dup, 1) := dq daX8_init_40 (i := 10) rfl
theorem dX8_init_107 : decode cX8_init 107 = .ok (.invokespecial 60, 3) := dq daX8_init_40 (i := 11) rfl
theorem dX8_init_110 : decode cX8_init 110 = .ok (.aastore, 1) := dq daX8_init_40 (i := 12) rfl
theorem dX8_init_111 : decode cX8_init 111 = .ok (.iinc 1 1, 3) := dq daX8_init_40 (i := 13) rfl
theorem dX8_init_114 : decode cX8_init 114 = .ok (.goto (-22), 3) := dq daX8_init_40 (i := 14) rfl
theorem dX8_init_117 : decode cX8_init 117 = .ok (.return_, 1) := dq daX8_init_40 (i := 15) rfl
theorem daX8_genus_0 : dchk cX8_genus [(0, .iload_n 1, 1), (1, .ifCond .lt 8, 3), (4, .iload_n 1, 1), (5, .iconst 2, 1), (6, .if_icmp .le 5, 3), (9, .iconst (-1), 1), (10, .ireturn, 1), (11, .aload_n 0, 1), (12, .getfield 12, 3), (15, .getfield 61, 3), (18, .istore_n 2, 1), (19, .aload_n 0, 1), (20, .getfield 12, 3), (23, .iload_n 1, 1), (24, .putfield 61, 3), (27, .aload_n 0, 1), (28, .getfield 24, 3), (31, .aload_n 0, 1), (32, .getfield 12, 3), (35, .invokevirtual 65, 3), (38, .iload_n 2, 1), (39, .ireturn, 1)] = true := by decide +kernel
theorem dX8_genus_0 : decode cX8_genus 0 = .ok (.iload_n 1, 1) := dq daX8_genus_0 (i := 0) rfl
theorem dX8_genus_1 : decode cX8_genus 1 = .ok (.ifCond .lt 8, 3) := dq daX8_genus_0 (i := 1) rfl
theorem dX8_genus_4 : decode cX8_genus 4 = .ok (.iload_n 1, 1) := dq daX8_genus_0 (i := 2) rfl
theorem dX8_genus_5 : decode cX8_genus 5 = .ok (.iconst 2, 1) := dq daX8_genus_0 (i := 3) rfl
theorem dX8_genus_6 : decode cX8_genus 6 = .ok (.if_icmp .le 5, 3) := dq daX8_genus_0 (i := 4) rfl
theorem dX8_genus_9 : decode cX8_genus 9 = .ok (.iconst (-1), 1) := dq daX8_genus_0 (i := 5) rfl
theorem dX8_genus_10 : decode cX8_genus 10 = .ok (.ireturn, 1) := dq daX8_genus_0 (i := 6) rfl
theorem dX8_genus_11 : decode cX8_genus 11 = .ok (.aload_n 0, 1) := dq daX8_genus_0 (i := 7) rfl
theorem dX8_genus_12 : decode cX8_genus 12 = .ok (.getfield 12, 3) := dq daX8_genus_0 (i := 8) rfl
theorem dX8_genus_15 : decode cX8_genus 15 = .ok (.getfield 61, 3) := dq daX8_genus_0 (i := 9) rfl
theorem dX8_genus_18 : decode cX8_genus 18 = .ok (.istore_n 2, 1) := dq daX8_genus_0 (i := 10) rfl
theorem dX8_genus_19 : decode cX8_genus 19 = .ok (.aload_n 0, 1) := dq daX8_genus_0 (i := 11) rfl
theorem dX8_genus_20 : decode cX8_genus 20 = .ok (.getfield 12, 3) := dq daX8_genus_0 (i := 12) rfl
theorem dX8_genus_23 : decode cX8_genus 23 = .ok (.iload_n 1, 1) := dq daX8_genus_0 (i := 13) rfl
theorem dX8_genus_24 : decode cX8_genus 24 = .ok (.putfield 61, 3) := dq daX8_genus_0 (i := 14) rfl
theorem dX8_genus_27 : decode cX8_genus 27 = .ok (.aload_n 0, 1) := dq daX8_genus_0 (i := 15) rfl
theorem dX8_genus_28 : decode cX8_genus 28 = .ok (.getfield 24, 3) := dq daX8_genus_0 (i := 16) rfl
theorem dX8_genus_31 : decode cX8_genus 31 = .ok (.aload_n 0, 1) := dq daX8_genus_0 (i := 17) rfl
theorem dX8_genus_32 : decode cX8_genus 32 = .ok (.getfield 12, 3) := dq daX8_genus_0 (i := 18) rfl
theorem dX8_genus_35 : decode cX8_genus 35 = .ok (.invokevirtual 65, 3) := dq daX8_genus_0 (i := 19) rfl
theorem dX8_genus_38 : decode cX8_genus 38 = .ok (.iload_n 2, 1) := dq daX8_genus_0 (i := 20) rfl
theorem dX8_genus_39 : decode cX8_genus 39 = .ok (.ireturn, 1) := dq daX8_genus_0 (i := 21) rfl
theorem daX8_mark_0 : dchk cX8_mark [(0, .iload_n 1, 1), (1, .invokestatic 69, 3), (4, .ifCond .ne 5, 3), (7, .iconst (-1), 1), (8, .ireturn, 1), (9, .aload_n 0, 1), (10, .getfield 12, 3), (13, .getfield 73, 3), (16, .bipush 8, 2), (18, .if_icmp .lt 6, 3), (21, .bipush (-3), 2), (23, .ireturn, 1), (24, .aload_n 0, 1), (25, .getfield 12, 3), (28, .iload_n 1, 1), (29, .invokevirtual 76, 3), (32, .aload_n 0, 1), (33, .getfield 24, 3), (36, .aload_n 0, 1), (37, .getfield 12, 3), (40, .invokevirtual 65, 3), (43, .aload_n 0, 1), (44, .getfield 12, 3), (47, .getfield 73, 3), (50, .ireturn, 1)] = true := by decide +kernel
theorem dX8_mark_0 : decode cX8_mark 0 = .ok (.iload_n 1, 1) := dq daX8_mark_0 (i := 0) rfl
theorem dX8_mark_1 : decode cX8_mark 1 = .ok (.invokestatic 69, 3) := dq daX8_mark_0 (i := 1) rfl
theorem dX8_mark_4 : decode cX8_mark 4 = .ok (.ifCond .ne 5, 3) := dq daX8_mark_0 (i := 2) rfl
theorem dX8_mark_7 : decode cX8_mark 7 = .ok (.iconst (-1), 1) := dq daX8_mark_0 (i := 3) rfl
theorem dX8_mark_8 : decode cX8_mark 8 = .ok (.ireturn, 1) := dq daX8_mark_0 (i := 4) rfl
theorem dX8_mark_9 : decode cX8_mark 9 = .ok (.aload_n 0, 1) := dq daX8_mark_0 (i := 5) rfl
theorem dX8_mark_10 : decode cX8_mark 10 = .ok (.getfield 12, 3) := dq daX8_mark_0 (i := 6) rfl
theorem dX8_mark_13 : decode cX8_mark 13 = .ok (.getfield 73, 3) := dq daX8_mark_0 (i := 7) rfl
theorem dX8_mark_16 : decode cX8_mark 16 = .ok (.bipush 8, 2) := dq daX8_mark_0 (i := 8) rfl
theorem dX8_mark_18 : decode cX8_mark 18 = .ok (.if_icmp .lt 6, 3) := dq daX8_mark_0 (i := 9) rfl
theorem dX8_mark_21 : decode cX8_mark 21 = .ok (.bipush (-3), 2) := dq daX8_mark_0 (i := 10) rfl
theorem dX8_mark_23 : decode cX8_mark 23 = .ok (.ireturn, 1) := dq daX8_mark_0 (i := 11) rfl
theorem dX8_mark_24 : decode cX8_mark 24 = .ok (.aload_n 0, 1) := dq daX8_mark_0 (i := 12) rfl
theorem dX8_mark_25 : decode cX8_mark 25 = .ok (.getfield 12, 3) := dq daX8_mark_0 (i := 13) rfl
theorem dX8_mark_28 : decode cX8_mark 28 = .ok (.iload_n 1, 1) := dq daX8_mark_0 (i := 14) rfl
theorem dX8_mark_29 : decode cX8_mark 29 = .ok (.invokevirtual 76, 3) := dq daX8_mark_0 (i := 15) rfl
theorem dX8_mark_32 : decode cX8_mark 32 = .ok (.aload_n 0, 1) := dq daX8_mark_0 (i := 16) rfl
theorem dX8_mark_33 : decode cX8_mark 33 = .ok (.getfield 24, 3) := dq daX8_mark_0 (i := 17) rfl
theorem dX8_mark_36 : decode cX8_mark 36 = .ok (.aload_n 0, 1) := dq daX8_mark_0 (i := 18) rfl
theorem dX8_mark_37 : decode cX8_mark 37 = .ok (.getfield 12, 3) := dq daX8_mark_0 (i := 19) rfl
theorem dX8_mark_40 : decode cX8_mark 40 = .ok (.invokevirtual 65, 3) := dq daX8_mark_0 (i := 20) rfl
theorem dX8_mark_43 : decode cX8_mark 43 = .ok (.aload_n 0, 1) := dq daX8_mark_0 (i := 21) rfl
theorem dX8_mark_44 : decode cX8_mark 44 = .ok (.getfield 12, 3) := dq daX8_mark_0 (i := 22) rfl
theorem dX8_mark_47 : decode cX8_mark 47 = .ok (.getfield 73, 3) := dq daX8_mark_0 (i := 23) rfl
theorem dX8_mark_50 : decode cX8_mark 50 = .ok (.ireturn, 1) := dq daX8_mark_0 (i := 24) rfl
theorem daX8_take_0 : dchk cX8_take [(0, .aload_n 0, 1), (1, .getfield 12, 3), (4, .iload_n 1, 1), (5, .invokevirtual 80, 3), (8, .ifCond .ne 5, 3), (11, .iconst (-1), 1), (12, .ireturn, 1), (13, .aload_n 0, 1), (14, .getfield 12, 3), (17, .iload_n 1, 1), (18, .invokevirtual 83, 3), (21, .aload_n 0, 1), (22, .getfield 24, 3), (25, .aload_n 0, 1), (26, .getfield 12, 3), (29, .invokevirtual 65, 3), (32, .aload_n 0, 1), (33, .getfield 12, 3), (36, .getfield 73, 3), (39, .ireturn, 1)] = true := by decide +kernel
theorem dX8_take_0 : decode cX8_take 0 = .ok (.aload_n 0, 1) := dq daX8_take_0 (i := 0) rfl
theorem dX8_take_1 : decode cX8_take 1 = .ok (.getfield 12, 3) := dq daX8_take_0 (i := 1) rfl
theorem dX8_take_4 : decode cX8_take 4 = .ok (.iload_n 1, 1) := dq daX8_take_0 (i := 2) rfl
theorem dX8_take_5 : decode cX8_take 5 = .ok (.invokevirtual 80, 3) := dq daX8_take_0 (i := 3) rfl
theorem dX8_take_8 : decode cX8_take 8 = .ok (.ifCond .ne 5, 3) := dq daX8_take_0 (i := 4) rfl
theorem dX8_take_11 : decode cX8_take 11 = .ok (.iconst (-1), 1) := dq daX8_take_0 (i := 5) rfl
theorem dX8_take_12 : decode cX8_take 12 = .ok (.ireturn, 1) := dq daX8_take_0 (i := 6) rfl
theorem dX8_take_13 : decode cX8_take 13 = .ok (.aload_n 0, 1) := dq daX8_take_0 (i := 7) rfl
theorem dX8_take_14 : decode cX8_take 14 = .ok (.getfield 12, 3) := dq daX8_take_0 (i := 8) rfl
theorem dX8_take_17 : decode cX8_take 17 = .ok (.iload_n 1, 1) := dq daX8_take_0 (i := 9) rfl
theorem dX8_take_18 : decode cX8_take 18 = .ok (.invokevirtual 83, 3) := dq daX8_take_0 (i := 10) rfl
theorem dX8_take_21 : decode cX8_take 21 = .ok (.aload_n 0, 1) := dq daX8_take_0 (i := 11) rfl
theorem dX8_take_22 : decode cX8_take 22 = .ok (.getfield 24, 3) := dq daX8_take_0 (i := 12) rfl
theorem dX8_take_25 : decode cX8_take 25 = .ok (.aload_n 0, 1) := dq daX8_take_0 (i := 13) rfl
theorem dX8_take_26 : decode cX8_take 26 = .ok (.getfield 12, 3) := dq daX8_take_0 (i := 14) rfl
theorem dX8_take_29 : decode cX8_take 29 = .ok (.invokevirtual 65, 3) := dq daX8_take_0 (i := 15) rfl
theorem dX8_take_32 : decode cX8_take 32 = .ok (.aload_n 0, 1) := dq daX8_take_0 (i := 16) rfl
theorem dX8_take_33 : decode cX8_take 33 = .ok (.getfield 12, 3) := dq daX8_take_0 (i := 17) rfl
theorem dX8_take_36 : decode cX8_take 36 = .ok (.getfield 73, 3) := dq daX8_take_0 (i := 18) rfl
theorem dX8_take_39 : decode cX8_take 39 = .ok (.ireturn, 1) := dq daX8_take_0 (i := 19) rfl
theorem daX8_change_0 : dchk cX8_change [(0, .aload_n 0, 1), (1, .getfield 12, 3), (4, .iload_n 1, 1), (5, .invokevirtual 80, 3), (8, .ifCond .eq 10, 3), (11, .iload_n 2, 1), (12, .invokestatic 69, 3), (15, .ifCond .ne 5, 3), (18, .iconst (-1), 1), (19, .ireturn, 1), (20, .aload_n 0, 1), (21, .getfield 12, 3), (24, .iload_n 1, 1), (25, .invokevirtual 86, 3), (28, .istore_n 3, 1), (29, .aload_n 0, 1), (30, .getfield 12, 3), (33, .iload_n 1, 1), (34, .iload_n 2, 1), (35, .invokevirtual 90, 3), (38, .aload_n 0, 1), (39, .getfield 24, 3), (42, .aload_n 0, 1), (43, .getfield 12, 3), (46, .invokevirtual 65, 3), (49, .iload_n 3, 1), (50, .ireturn, 1)] = true := by decide +kernel
theorem dX8_change_0 : decode cX8_change 0 = .ok (.aload_n 0, 1) := dq daX8_change_0 (i := 0) rfl
theorem dX8_change_1 : decode cX8_change 1 = .ok (.getfield 12, 3) := dq daX8_change_0 (i := 1) rfl
theorem dX8_change_4 : decode cX8_change 4 = .ok (.iload_n 1, 1) := dq daX8_change_0 (i := 2) rfl
theorem dX8_change_5 : decode cX8_change 5 = .ok (.invokevirtual 80, 3) := dq daX8_change_0 (i := 3) rfl
theorem dX8_change_8 : decode cX8_change 8 = .ok (.ifCond .eq 10, 3) := dq daX8_change_0 (i := 4) rfl
theorem dX8_change_11 : decode cX8_change 11 = .ok (.iload_n 2, 1) := dq daX8_change_0 (i := 5) rfl
theorem dX8_change_12 : decode cX8_change 12 = .ok (.invokestatic 69, 3) := dq daX8_change_0 (i := 6) rfl
theorem dX8_change_15 : decode cX8_change 15 = .ok (.ifCond .ne 5, 3) := dq daX8_change_0 (i := 7) rfl
theorem dX8_change_18 : decode cX8_change 18 = .ok (.iconst (-1), 1) := dq daX8_change_0 (i := 8) rfl
theorem dX8_change_19 : decode cX8_change 19 = .ok (.ireturn, 1) := dq daX8_change_0 (i := 9) rfl
theorem dX8_change_20 : decode cX8_change 20 = .ok (.aload_n 0, 1) := dq daX8_change_0 (i := 10) rfl
theorem dX8_change_21 : decode cX8_change 21 = .ok (.getfield 12, 3) := dq daX8_change_0 (i := 11) rfl
theorem dX8_change_24 : decode cX8_change 24 = .ok (.iload_n 1, 1) := dq daX8_change_0 (i := 12) rfl
theorem dX8_change_25 : decode cX8_change 25 = .ok (.invokevirtual 86, 3) := dq daX8_change_0 (i := 13) rfl
theorem dX8_change_28 : decode cX8_change 28 = .ok (.istore_n 3, 1) := dq daX8_change_0 (i := 14) rfl
theorem dX8_change_29 : decode cX8_change 29 = .ok (.aload_n 0, 1) := dq daX8_change_0 (i := 15) rfl
theorem dX8_change_30 : decode cX8_change 30 = .ok (.getfield 12, 3) := dq daX8_change_0 (i := 16) rfl
theorem dX8_change_33 : decode cX8_change 33 = .ok (.iload_n 1, 1) := dq daX8_change_0 (i := 17) rfl
theorem dX8_change_34 : decode cX8_change 34 = .ok (.iload_n 2, 1) := dq daX8_change_0 (i := 18) rfl
theorem dX8_change_35 : decode cX8_change 35 = .ok (.invokevirtual 90, 3) := dq daX8_change_0 (i := 19) rfl
theorem dX8_change_38 : decode cX8_change 38 = .ok (.aload_n 0, 1) := dq daX8_change_0 (i := 20) rfl
theorem dX8_change_39 : decode cX8_change 39 = .ok (.getfield 24, 3) := dq daX8_change_0 (i := 21) rfl
theorem dX8_change_42 : decode cX8_change 42 = .ok (.aload_n 0, 1) := dq daX8_change_0 (i := 22) rfl
theorem dX8_change_43 : decode cX8_change 43 = .ok (.getfield 12, 3) := dq daX8_change_0 (i := 23) rfl
theorem dX8_change_46 : decode cX8_change 46 = .ok (.invokevirtual 65, 3) := dq daX8_change_0 (i := 24) rfl
theorem dX8_change_49 : decode cX8_change 49 = .ok (.iload_n 3, 1) := dq daX8_change_0 (i := 25) rfl
theorem dX8_change_50 : decode cX8_change 50 = .ok (.ireturn, 1) := dq daX8_change_0 (i := 26) rfl
theorem daX8_order_0 : dchk cX8_order [(0, .iload_n 1, 1), (1, .ifCond .lt 8, 3), (4, .iload_n 1, 1), (5, .iconst 3, 1), (6, .if_icmp .le 5, 3), (9, .iconst (-1), 1), (10, .ireturn, 1), (11, .iload_n 1, 1), (12, .ifCond .eq 8, 3), (15, .iload_n 1, 1), (16, .iconst 1, 1), (17, .if_icmp .ne 10, 3), (20, .aload_n 0, 1), (21, .getfield 12, 3), (24, .invokevirtual 94, 3), (27, .iload_n 1, 1), (28, .iconst 1, 1), (29, .if_icmp .eq 8, 3), (32, .iload_n 1, 1), (33, .iconst 2, 1), (34, .if_icmp .ne 10, 3), (37, .aload_n 0, 1), (38, .getfield 12, 3), (41, .invokevirtual 97, 3), (44, .iload_n 1, 1), (45, .iconst 3, 1), (46, .if_icmp .ne 10, 3), (49, .aload_n 0, 1), (50, .getfield 12, 3), (53, .invokevirtual 100, 3), (56, .aload_n 0, 1), (57, .getfield 12, 3), (60, .aload_n 0, 1), (61, .getfield 24, 3), (64, .invokevirtual 103, 3), (67, .invokevirtual 107, 3), (70, .istore_n 2, 1), (71, .aload_n 0, 1), (72, .getfield 24, 3), (75, .aload_n 0, 1)] = true := by decide +kernel
theorem dX8_order_0 : decode cX8_order 0 = .ok (.iload_n 1, 1) := dq daX8_order_0 (i := 0) rfl
theorem dX8_order_1 : decode cX8_order 1 = .ok (.ifCond .lt 8, 3) := dq daX8_order_0 (i := 1) rfl
theorem dX8_order_4 : decode cX8_order 4 = .ok (.iload_n 1, 1) := dq daX8_order_0 (i := 2) rfl
theorem dX8_order_5 : decode cX8_order 5 = .ok (.iconst 3, 1) := dq daX8_order_0 (i := 3) rfl
theorem dX8_order_6 : decode cX8_order 6 = .ok (.if_icmp .le 5, 3) := dq daX8_order_0 (i := 4) rfl
theorem dX8_order_9 : decode cX8_order 9 = .ok (.iconst (-1), 1) := dq daX8_order_0 (i := 5) rfl
theorem dX8_order_10 : decode cX8_order 10 = .ok (.ireturn, 1) := dq daX8_order_0 (i := 6) rfl
theorem dX8_order_11 : decode cX8_order 11 = .ok (.iload_n 1, 1) := dq daX8_order_0 (i := 7) rfl
theorem dX8_order_12 : decode cX8_order 12 = .ok (.ifCond .eq 8, 3) := dq daX8_order_0 (i := 8) rfl
theorem dX8_order_15 : decode cX8_order 15 = .ok (.iload_n 1, 1) := dq daX8_order_0 (i := 9) rfl
theorem dX8_order_16 : decode cX8_order 16 = .ok (.iconst 1, 1) := dq daX8_order_0 (i := 10) rfl
theorem dX8_order_17 : decode cX8_order 17 = .ok (.if_icmp .ne 10, 3) := dq daX8_order_0 (i := 11) rfl
theorem dX8_order_20 : decode cX8_order 20 = .ok (.aload_n 0, 1) := dq daX8_order_0 (i := 12) rfl
theorem dX8_order_21 : decode cX8_order 21 = .ok (.getfield 12, 3) := dq daX8_order_0 (i := 13) rfl
theorem dX8_order_24 : decode cX8_order 24 = .ok (.invokevirtual 94, 3) := dq daX8_order_0 (i := 14) rfl
theorem dX8_order_27 : decode cX8_order 27 = .ok (.iload_n 1, 1) := dq daX8_order_0 (i := 15) rfl
theorem dX8_order_28 : decode cX8_order 28 = .ok (.iconst 1, 1) := dq daX8_order_0 (i := 16) rfl
theorem dX8_order_29 : decode cX8_order 29 = .ok (.if_icmp .eq 8, 3) := dq daX8_order_0 (i := 17) rfl
theorem dX8_order_32 : decode cX8_order 32 = .ok (.iload_n 1, 1) := dq daX8_order_0 (i := 18) rfl
theorem dX8_order_33 : decode cX8_order 33 = .ok (.iconst 2, 1) := dq daX8_order_0 (i := 19) rfl
theorem dX8_order_34 : decode cX8_order 34 = .ok (.if_icmp .ne 10, 3) := dq daX8_order_0 (i := 20) rfl
theorem dX8_order_37 : decode cX8_order 37 = .ok (.aload_n 0, 1) := dq daX8_order_0 (i := 21) rfl
theorem dX8_order_38 : decode cX8_order 38 = .ok (.getfield 12, 3) := dq daX8_order_0 (i := 22) rfl
theorem dX8_order_41 : decode cX8_order 41 = .ok (.invokevirtual 97, 3) := dq daX8_order_0 (i := 23) rfl
theorem dX8_order_44 : decode cX8_order 44 = .ok (.iload_n 1, 1) := dq daX8_order_0 (i := 24) rfl
theorem dX8_order_45 : decode cX8_order 45 = .ok (.iconst 3, 1) := dq daX8_order_0 (i := 25) rfl
theorem dX8_order_46 : decode cX8_order 46 = .ok (.if_icmp .ne 10, 3) := dq daX8_order_0 (i := 26) rfl
theorem dX8_order_49 : decode cX8_order 49 = .ok (.aload_n 0, 1) := dq daX8_order_0 (i := 27) rfl
theorem dX8_order_50 : decode cX8_order 50 = .ok (.getfield 12, 3) := dq daX8_order_0 (i := 28) rfl
theorem dX8_order_53 : decode cX8_order 53 = .ok (.invokevirtual 100, 3) := dq daX8_order_0 (i := 29) rfl
theorem dX8_order_56 : decode cX8_order 56 = .ok (.aload_n 0, 1) := dq daX8_order_0 (i := 30) rfl
theorem dX8_order_57 : decode cX8_order 57 = .ok (.getfield 12, 3) := dq daX8_order_0 (i := 31) rfl
theorem dX8_order_60 : decode cX8_order 60 = .ok (.aload_n 0, 1) := dq daX8_order_0 (i := 32) rfl
theorem dX8_order_61 : decode cX8_order 61 = .ok (.getfield 24, 3) := dq daX8_order_0 (i := 33) rfl
theorem dX8_order_64 : decode cX8_order 64 = .ok (.invokevirtual 103, 3) := dq daX8_order_0 (i := 34) rfl
theorem dX8_order_67 : decode cX8_order 67 = .ok (.invokevirtual 107, 3) := dq daX8_order_0 (i := 35) rfl
theorem dX8_order_70 : decode cX8_order 70 = .ok (.istore_n 2, 1) := dq daX8_order_0 (i := 36) rfl
theorem dX8_order_71 : decode cX8_order 71 = .ok (.aload_n 0, 1) := dq daX8_order_0 (i := 37) rfl
theorem dX8_order_72 : decode cX8_order 72 = .ok (.getfield 24, 3) := dq daX8_order_0 (i := 38) rfl
theorem dX8_order_75 : decode cX8_order 75 = .ok (.aload_n 0, 1) := dq daX8_order_0 (i := 39) rfl
theorem daX8_order_40 : dchk cX8_order [(76, .getfield 12, 3), (79, .invokevirtual 65, 3), (82, .iload_n 2, 1), (83, .ireturn, 1)] = true := by decide +kernel
theorem dX8_order_76 : decode cX8_order 76 = .ok (.getfield 12, 3) := dq daX8_order_40 (i := 0) rfl
theorem dX8_order_79 : decode cX8_order 79 = .ok (.invokevirtual 65, 3) := dq daX8_order_40 (i := 1) rfl
theorem dX8_order_82 : decode cX8_order 82 = .ok (.iload_n 2, 1) := dq daX8_order_40 (i := 2) rfl
theorem dX8_order_83 : decode cX8_order 83 = .ok (.ireturn, 1) := dq daX8_order_40 (i := 3) rfl
theorem daX8_of_0 : dchk cX8_of [(0, .aload_n 0, 1), (1, .getfield 12, 3), (4, .iload_n 1, 1), (5, .invokevirtual 80, 3), (8, .ifCond .eq 14, 3), (11, .aload_n 0, 1), (12, .getfield 12, 3), (15, .iload_n 1, 1), (16, .invokevirtual 86, 3), (19, .goto 4, 3), (22, .iconst (-1), 1), (23, .ireturn, 1)] = true := by decide +kernel
theorem dX8_of_0 : decode cX8_of 0 = .ok (.aload_n 0, 1) := dq daX8_of_0 (i := 0) rfl
theorem dX8_of_1 : decode cX8_of 1 = .ok (.getfield 12, 3) := dq daX8_of_0 (i := 1) rfl
theorem dX8_of_4 : decode cX8_of 4 = .ok (.iload_n 1, 1) := dq daX8_of_0 (i := 2) rfl
theorem dX8_of_5 : decode cX8_of 5 = .ok (.invokevirtual 80, 3) := dq daX8_of_0 (i := 3) rfl
theorem dX8_of_8 : decode cX8_of 8 = .ok (.ifCond .eq 14, 3) := dq daX8_of_0 (i := 4) rfl
theorem dX8_of_11 : decode cX8_of 11 = .ok (.aload_n 0, 1) := dq daX8_of_0 (i := 5) rfl
theorem dX8_of_12 : decode cX8_of 12 = .ok (.getfield 12, 3) := dq daX8_of_0 (i := 6) rfl
theorem dX8_of_15 : decode cX8_of 15 = .ok (.iload_n 1, 1) := dq daX8_of_0 (i := 7) rfl
theorem dX8_of_16 : decode cX8_of 16 = .ok (.invokevirtual 86, 3) := dq daX8_of_0 (i := 8) rfl
theorem dX8_of_19 : decode cX8_of 19 = .ok (.goto 4, 3) := dq daX8_of_0 (i := 9) rfl
theorem dX8_of_22 : decode cX8_of 22 = .ok (.iconst (-1), 1) := dq daX8_of_0 (i := 10) rfl
theorem dX8_of_23 : decode cX8_of 23 = .ok (.ireturn, 1) := dq daX8_of_0 (i := 11) rfl
theorem daX8_number_0 : dchk cX8_number [(0, .iload_n 1, 1), (1, .invokestatic 111, 3), (4, .ifCond .ne 7, 3), (7, .ldc2_w 114, 3), (10, .lreturn, 1), (11, .aload_n 0, 1), (12, .iconst (-1), 1), (13, .iconst (-1), 1), (14, .iconst (-1), 1), (15, .invokevirtual 116, 3), (18, .aload_n 0, 1), (19, .getfield 12, 3), (22, .getfield 61, 3), (25, .invokestatic 120, 3), (28, .iload_n 1, 1), (29, .invokestatic 124, 3), (32, .lreturn, 1)] = true := by decide +kernel
theorem dX8_number_0 : decode cX8_number 0 = .ok (.iload_n 1, 1) := dq daX8_number_0 (i := 0) rfl
theorem dX8_number_1 : decode cX8_number 1 = .ok (.invokestatic 111, 3) := dq daX8_number_0 (i := 1) rfl
theorem dX8_number_4 : decode cX8_number 4 = .ok (.ifCond .ne 7, 3) := dq daX8_number_0 (i := 2) rfl
theorem dX8_number_7 : decode cX8_number 7 = .ok (.ldc2_w 114, 3) := dq daX8_number_0 (i := 3) rfl
theorem dX8_number_10 : decode cX8_number 10 = .ok (.lreturn, 1) := dq daX8_number_0 (i := 4) rfl
theorem dX8_number_11 : decode cX8_number 11 = .ok (.aload_n 0, 1) := dq daX8_number_0 (i := 5) rfl
theorem dX8_number_12 : decode cX8_number 12 = .ok (.iconst (-1), 1) := dq daX8_number_0 (i := 6) rfl
theorem dX8_number_13 : decode cX8_number 13 = .ok (.iconst (-1), 1) := dq daX8_number_0 (i := 7) rfl
theorem dX8_number_14 : decode cX8_number 14 = .ok (.iconst (-1), 1) := dq daX8_number_0 (i := 8) rfl
theorem dX8_number_15 : decode cX8_number 15 = .ok (.invokevirtual 116, 3) := dq daX8_number_0 (i := 9) rfl
theorem dX8_number_18 : decode cX8_number 18 = .ok (.aload_n 0, 1) := dq daX8_number_0 (i := 10) rfl
theorem dX8_number_19 : decode cX8_number 19 = .ok (.getfield 12, 3) := dq daX8_number_0 (i := 11) rfl
theorem dX8_number_22 : decode cX8_number 22 = .ok (.getfield 61, 3) := dq daX8_number_0 (i := 12) rfl
theorem dX8_number_25 : decode cX8_number 25 = .ok (.invokestatic 120, 3) := dq daX8_number_0 (i := 13) rfl
theorem dX8_number_28 : decode cX8_number 28 = .ok (.iload_n 1, 1) := dq daX8_number_0 (i := 14) rfl
theorem dX8_number_29 : decode cX8_number 29 = .ok (.invokestatic 124, 3) := dq daX8_number_0 (i := 15) rfl
theorem dX8_number_32 : decode cX8_number 32 = .ok (.lreturn, 1) := dq daX8_number_0 (i := 16) rfl
theorem daX8_rule_0 : dchk cX8_rule [(0, .aload_n 0, 1), (1, .iconst (-1), 1), (2, .iconst (-1), 1), (3, .iconst (-1), 1), (4, .invokevirtual 128, 3), (7, .invokestatic 131, 3), (10, .ireturn, 1)] = true := by decide +kernel
theorem dX8_rule_0 : decode cX8_rule 0 = .ok (.aload_n 0, 1) := dq daX8_rule_0 (i := 0) rfl
theorem dX8_rule_1 : decode cX8_rule 1 = .ok (.iconst (-1), 1) := dq daX8_rule_0 (i := 1) rfl
theorem dX8_rule_2 : decode cX8_rule 2 = .ok (.iconst (-1), 1) := dq daX8_rule_0 (i := 2) rfl
theorem dX8_rule_3 : decode cX8_rule 3 = .ok (.iconst (-1), 1) := dq daX8_rule_0 (i := 3) rfl
theorem dX8_rule_4 : decode cX8_rule 4 = .ok (.invokevirtual 128, 3) := dq daX8_rule_0 (i := 4) rfl
theorem dX8_rule_7 : decode cX8_rule 7 = .ok (.invokestatic 131, 3) := dq daX8_rule_0 (i := 5) rfl
theorem dX8_rule_10 : decode cX8_rule 10 = .ok (.ireturn, 1) := dq daX8_rule_0 (i := 6) rfl
theorem daX8_met_0 : dchk cX8_met [(0, .aload_n 0, 1), (1, .getfield 31, 3), (4, .aload_n 0, 1), (5, .iconst (-1), 1), (6, .iconst (-1), 1), (7, .iconst (-1), 1), (8, .invokevirtual 128, 3), (11, .invokevirtual 135, 3), (14, .ireturn, 1)] = true := by decide +kernel
theorem dX8_met_0 : decode cX8_met 0 = .ok (.aload_n 0, 1) := dq daX8_met_0 (i := 0) rfl
theorem dX8_met_1 : decode cX8_met 1 = .ok (.getfield 31, 3) := dq daX8_met_0 (i := 1) rfl
theorem dX8_met_4 : decode cX8_met 4 = .ok (.aload_n 0, 1) := dq daX8_met_0 (i := 2) rfl
theorem dX8_met_5 : decode cX8_met 5 = .ok (.iconst (-1), 1) := dq daX8_met_0 (i := 3) rfl
theorem dX8_met_6 : decode cX8_met 6 = .ok (.iconst (-1), 1) := dq daX8_met_0 (i := 4) rfl
theorem dX8_met_7 : decode cX8_met 7 = .ok (.iconst (-1), 1) := dq daX8_met_0 (i := 5) rfl
theorem dX8_met_8 : decode cX8_met 8 = .ok (.invokevirtual 128, 3) := dq daX8_met_0 (i := 6) rfl
theorem dX8_met_11 : decode cX8_met 11 = .ok (.invokevirtual 135, 3) := dq daX8_met_0 (i := 7) rfl
theorem dX8_met_14 : decode cX8_met 14 = .ok (.ireturn, 1) := dq daX8_met_0 (i := 8) rfl
theorem daX8_kappa_0 : dchk cX8_kappa [(0, .iload_n 1, 1), (1, .invokestatic 138, 3), (4, .ifCond .eq 25, 3), (7, .iload_n 2, 1), (8, .invokestatic 138, 3), (11, .ifCond .eq 18, 3), (14, .iload_n 3, 1), (15, .invokestatic 138, 3), (18, .ifCond .eq 11, 3), (21, .iload 4, 2), (23, .invokestatic 111, 3), (26, .ifCond .ne 7, 3), (29, .ldc2_w 114, 3), (32, .lreturn, 1), (33, .iload_n 1, 1), (34, .iconst (-1), 1), (35, .if_icmp .ne 8, 3), (38, .iload_n 2, 1), (39, .iconst (-1), 1), (40, .if_icmp .ne 13, 3), (43, .iload_n 2, 1), (44, .iconst (-1), 1), (45, .if_icmp .ne 12, 3), (48, .iload_n 3, 1), (49, .iconst (-1), 1), (50, .if_icmp .eq 7, 3), (53, .ldc2_w 114, 3), (56, .lreturn, 1), (57, .iload_n 3, 1), (58, .iconst (-1), 1), (59, .if_icmp .eq 15, 3), (62, .aload_n 0, 1), (63, .iload_n 1, 1), (64, .iload_n 2, 1), (65, .iload_n 3, 1), (66, .invokevirtual 141, 3), (69, .lstore 5, 2), (71, .goto 28, 3), (74, .iload_n 2, 1), (75, .iconst (-1), 1)] = true := by decide +kernel
theorem dX8_kappa_0 : decode cX8_kappa 0 = .ok (.iload_n 1, 1) := dq daX8_kappa_0 (i := 0) rfl
theorem dX8_kappa_1 : decode cX8_kappa 1 = .ok (.invokestatic 138, 3) := dq daX8_kappa_0 (i := 1) rfl
theorem dX8_kappa_4 : decode cX8_kappa 4 = .ok (.ifCond .eq 25, 3) := dq daX8_kappa_0 (i := 2) rfl
theorem dX8_kappa_7 : decode cX8_kappa 7 = .ok (.iload_n 2, 1) := dq daX8_kappa_0 (i := 3) rfl
theorem dX8_kappa_8 : decode cX8_kappa 8 = .ok (.invokestatic 138, 3) := dq daX8_kappa_0 (i := 4) rfl
theorem dX8_kappa_11 : decode cX8_kappa 11 = .ok (.ifCond .eq 18, 3) := dq daX8_kappa_0 (i := 5) rfl
theorem dX8_kappa_14 : decode cX8_kappa 14 = .ok (.iload_n 3, 1) := dq daX8_kappa_0 (i := 6) rfl
theorem dX8_kappa_15 : decode cX8_kappa 15 = .ok (.invokestatic 138, 3) := dq daX8_kappa_0 (i := 7) rfl
theorem dX8_kappa_18 : decode cX8_kappa 18 = .ok (.ifCond .eq 11, 3) := dq daX8_kappa_0 (i := 8) rfl
theorem dX8_kappa_21 : decode cX8_kappa 21 = .ok (.iload 4, 2) := dq daX8_kappa_0 (i := 9) rfl
theorem dX8_kappa_23 : decode cX8_kappa 23 = .ok (.invokestatic 111, 3) := dq daX8_kappa_0 (i := 10) rfl
theorem dX8_kappa_26 : decode cX8_kappa 26 = .ok (.ifCond .ne 7, 3) := dq daX8_kappa_0 (i := 11) rfl
theorem dX8_kappa_29 : decode cX8_kappa 29 = .ok (.ldc2_w 114, 3) := dq daX8_kappa_0 (i := 12) rfl
theorem dX8_kappa_32 : decode cX8_kappa 32 = .ok (.lreturn, 1) := dq daX8_kappa_0 (i := 13) rfl
theorem dX8_kappa_33 : decode cX8_kappa 33 = .ok (.iload_n 1, 1) := dq daX8_kappa_0 (i := 14) rfl
theorem dX8_kappa_34 : decode cX8_kappa 34 = .ok (.iconst (-1), 1) := dq daX8_kappa_0 (i := 15) rfl
theorem dX8_kappa_35 : decode cX8_kappa 35 = .ok (.if_icmp .ne 8, 3) := dq daX8_kappa_0 (i := 16) rfl
theorem dX8_kappa_38 : decode cX8_kappa 38 = .ok (.iload_n 2, 1) := dq daX8_kappa_0 (i := 17) rfl
theorem dX8_kappa_39 : decode cX8_kappa 39 = .ok (.iconst (-1), 1) := dq daX8_kappa_0 (i := 18) rfl
theorem dX8_kappa_40 : decode cX8_kappa 40 = .ok (.if_icmp .ne 13, 3) := dq daX8_kappa_0 (i := 19) rfl
theorem dX8_kappa_43 : decode cX8_kappa 43 = .ok (.iload_n 2, 1) := dq daX8_kappa_0 (i := 20) rfl
theorem dX8_kappa_44 : decode cX8_kappa 44 = .ok (.iconst (-1), 1) := dq daX8_kappa_0 (i := 21) rfl
theorem dX8_kappa_45 : decode cX8_kappa 45 = .ok (.if_icmp .ne 12, 3) := dq daX8_kappa_0 (i := 22) rfl
theorem dX8_kappa_48 : decode cX8_kappa 48 = .ok (.iload_n 3, 1) := dq daX8_kappa_0 (i := 23) rfl
theorem dX8_kappa_49 : decode cX8_kappa 49 = .ok (.iconst (-1), 1) := dq daX8_kappa_0 (i := 24) rfl
theorem dX8_kappa_50 : decode cX8_kappa 50 = .ok (.if_icmp .eq 7, 3) := dq daX8_kappa_0 (i := 25) rfl
theorem dX8_kappa_53 : decode cX8_kappa 53 = .ok (.ldc2_w 114, 3) := dq daX8_kappa_0 (i := 26) rfl
theorem dX8_kappa_56 : decode cX8_kappa 56 = .ok (.lreturn, 1) := dq daX8_kappa_0 (i := 27) rfl
theorem dX8_kappa_57 : decode cX8_kappa 57 = .ok (.iload_n 3, 1) := dq daX8_kappa_0 (i := 28) rfl
theorem dX8_kappa_58 : decode cX8_kappa 58 = .ok (.iconst (-1), 1) := dq daX8_kappa_0 (i := 29) rfl
theorem dX8_kappa_59 : decode cX8_kappa 59 = .ok (.if_icmp .eq 15, 3) := dq daX8_kappa_0 (i := 30) rfl
theorem dX8_kappa_62 : decode cX8_kappa 62 = .ok (.aload_n 0, 1) := dq daX8_kappa_0 (i := 31) rfl
theorem dX8_kappa_63 : decode cX8_kappa 63 = .ok (.iload_n 1, 1) := dq daX8_kappa_0 (i := 32) rfl
theorem dX8_kappa_64 : decode cX8_kappa 64 = .ok (.iload_n 2, 1) := dq daX8_kappa_0 (i := 33) rfl
theorem dX8_kappa_65 : decode cX8_kappa 65 = .ok (.iload_n 3, 1) := dq daX8_kappa_0 (i := 34) rfl
theorem dX8_kappa_66 : decode cX8_kappa 66 = .ok (.invokevirtual 141, 3) := dq daX8_kappa_0 (i := 35) rfl
theorem dX8_kappa_69 : decode cX8_kappa 69 = .ok (.lstore 5, 2) := dq daX8_kappa_0 (i := 36) rfl
theorem dX8_kappa_71 : decode cX8_kappa 71 = .ok (.goto 28, 3) := dq daX8_kappa_0 (i := 37) rfl
theorem dX8_kappa_74 : decode cX8_kappa 74 = .ok (.iload_n 2, 1) := dq daX8_kappa_0 (i := 38) rfl
theorem dX8_kappa_75 : decode cX8_kappa 75 = .ok (.iconst (-1), 1) := dq daX8_kappa_0 (i := 39) rfl
theorem daX8_kappa_40 : dchk cX8_kappa [(76, .if_icmp .eq 14, 3), (79, .aload_n 0, 1), (80, .iload_n 1, 1), (81, .iload_n 2, 1), (82, .invokevirtual 144, 3), (85, .lstore 5, 2), (87, .goto 12, 3), (90, .aload_n 0, 1), (91, .iload_n 1, 1), (92, .iconst (-1), 1), (93, .iconst (-1), 1), (94, .invokevirtual 116, 3), (97, .lstore 5, 2), (99, .lload 5, 2), (101, .aload_n 0, 1), (102, .getfield 12, 3), (105, .getfield 61, 3), (108, .invokestatic 120, 3), (111, .iload 4, 2), (113, .invokestatic 124, 3), (116, .lreturn, 1)] = true := by decide +kernel
theorem dX8_kappa_76 : decode cX8_kappa 76 = .ok (.if_icmp .eq 14, 3) := dq daX8_kappa_40 (i := 0) rfl
theorem dX8_kappa_79 : decode cX8_kappa 79 = .ok (.aload_n 0, 1) := dq daX8_kappa_40 (i := 1) rfl
theorem dX8_kappa_80 : decode cX8_kappa 80 = .ok (.iload_n 1, 1) := dq daX8_kappa_40 (i := 2) rfl
theorem dX8_kappa_81 : decode cX8_kappa 81 = .ok (.iload_n 2, 1) := dq daX8_kappa_40 (i := 3) rfl
theorem dX8_kappa_82 : decode cX8_kappa 82 = .ok (.invokevirtual 144, 3) := dq daX8_kappa_40 (i := 4) rfl
theorem dX8_kappa_85 : decode cX8_kappa 85 = .ok (.lstore 5, 2) := dq daX8_kappa_40 (i := 5) rfl
theorem dX8_kappa_87 : decode cX8_kappa 87 = .ok (.goto 12, 3) := dq daX8_kappa_40 (i := 6) rfl
theorem dX8_kappa_90 : decode cX8_kappa 90 = .ok (.aload_n 0, 1) := dq daX8_kappa_40 (i := 7) rfl
theorem dX8_kappa_91 : decode cX8_kappa 91 = .ok (.iload_n 1, 1) := dq daX8_kappa_40 (i := 8) rfl
theorem dX8_kappa_92 : decode cX8_kappa 92 = .ok (.iconst (-1), 1) := dq daX8_kappa_40 (i := 9) rfl
theorem dX8_kappa_93 : decode cX8_kappa 93 = .ok (.iconst (-1), 1) := dq daX8_kappa_40 (i := 10) rfl
theorem dX8_kappa_94 : decode cX8_kappa 94 = .ok (.invokevirtual 116, 3) := dq daX8_kappa_40 (i := 11) rfl
theorem dX8_kappa_97 : decode cX8_kappa 97 = .ok (.lstore 5, 2) := dq daX8_kappa_40 (i := 12) rfl
theorem dX8_kappa_99 : decode cX8_kappa 99 = .ok (.lload 5, 2) := dq daX8_kappa_40 (i := 13) rfl
theorem dX8_kappa_101 : decode cX8_kappa 101 = .ok (.aload_n 0, 1) := dq daX8_kappa_40 (i := 14) rfl
theorem dX8_kappa_102 : decode cX8_kappa 102 = .ok (.getfield 12, 3) := dq daX8_kappa_40 (i := 15) rfl
theorem dX8_kappa_105 : decode cX8_kappa 105 = .ok (.getfield 61, 3) := dq daX8_kappa_40 (i := 16) rfl
theorem dX8_kappa_108 : decode cX8_kappa 108 = .ok (.invokestatic 120, 3) := dq daX8_kappa_40 (i := 17) rfl
theorem dX8_kappa_111 : decode cX8_kappa 111 = .ok (.iload 4, 2) := dq daX8_kappa_40 (i := 18) rfl
theorem dX8_kappa_113 : decode cX8_kappa 113 = .ok (.invokestatic 124, 3) := dq daX8_kappa_40 (i := 19) rfl
theorem dX8_kappa_116 : decode cX8_kappa 116 = .ok (.lreturn, 1) := dq daX8_kappa_40 (i := 20) rfl
theorem daX8_leaves_0 : dchk cX8_leaves [(0, .iload_n 1, 1), (1, .invokestatic 148, 3), (4, .ifCond .ne 5, 3), (7, .iconst (-1), 1), (8, .ireturn, 1), (9, .aload_n 0, 1), (10, .getfield 12, 3), (13, .getfield 153, 3), (16, .istore_n 2, 1), (17, .aload_n 0, 1), (18, .getfield 12, 3), (21, .iload_n 1, 1), (22, .putfield 153, 3), (25, .aload_n 0, 1), (26, .getfield 12, 3), (29, .lconst 0, 1), (30, .putfield 156, 3), (33, .aload_n 0, 1), (34, .getfield 24, 3), (37, .aload_n 0, 1), (38, .getfield 12, 3), (41, .invokevirtual 65, 3), (44, .iload_n 2, 1), (45, .ireturn, 1)] = true := by decide +kernel
theorem dX8_leaves_0 : decode cX8_leaves 0 = .ok (.iload_n 1, 1) := dq daX8_leaves_0 (i := 0) rfl
theorem dX8_leaves_1 : decode cX8_leaves 1 = .ok (.invokestatic 148, 3) := dq daX8_leaves_0 (i := 1) rfl
theorem dX8_leaves_4 : decode cX8_leaves 4 = .ok (.ifCond .ne 5, 3) := dq daX8_leaves_0 (i := 2) rfl
theorem dX8_leaves_7 : decode cX8_leaves 7 = .ok (.iconst (-1), 1) := dq daX8_leaves_0 (i := 3) rfl
theorem dX8_leaves_8 : decode cX8_leaves 8 = .ok (.ireturn, 1) := dq daX8_leaves_0 (i := 4) rfl
theorem dX8_leaves_9 : decode cX8_leaves 9 = .ok (.aload_n 0, 1) := dq daX8_leaves_0 (i := 5) rfl
theorem dX8_leaves_10 : decode cX8_leaves 10 = .ok (.getfield 12, 3) := dq daX8_leaves_0 (i := 6) rfl
theorem dX8_leaves_13 : decode cX8_leaves 13 = .ok (.getfield 153, 3) := dq daX8_leaves_0 (i := 7) rfl
theorem dX8_leaves_16 : decode cX8_leaves 16 = .ok (.istore_n 2, 1) := dq daX8_leaves_0 (i := 8) rfl
theorem dX8_leaves_17 : decode cX8_leaves 17 = .ok (.aload_n 0, 1) := dq daX8_leaves_0 (i := 9) rfl
theorem dX8_leaves_18 : decode cX8_leaves 18 = .ok (.getfield 12, 3) := dq daX8_leaves_0 (i := 10) rfl
theorem dX8_leaves_21 : decode cX8_leaves 21 = .ok (.iload_n 1, 1) := dq daX8_leaves_0 (i := 11) rfl
theorem dX8_leaves_22 : decode cX8_leaves 22 = .ok (.putfield 153, 3) := dq daX8_leaves_0 (i := 12) rfl
theorem dX8_leaves_25 : decode cX8_leaves 25 = .ok (.aload_n 0, 1) := dq daX8_leaves_0 (i := 13) rfl
theorem dX8_leaves_26 : decode cX8_leaves 26 = .ok (.getfield 12, 3) := dq daX8_leaves_0 (i := 14) rfl
theorem dX8_leaves_29 : decode cX8_leaves 29 = .ok (.lconst 0, 1) := dq daX8_leaves_0 (i := 15) rfl
theorem dX8_leaves_30 : decode cX8_leaves 30 = .ok (.putfield 156, 3) := dq daX8_leaves_0 (i := 16) rfl
theorem dX8_leaves_33 : decode cX8_leaves 33 = .ok (.aload_n 0, 1) := dq daX8_leaves_0 (i := 17) rfl
theorem dX8_leaves_34 : decode cX8_leaves 34 = .ok (.getfield 24, 3) := dq daX8_leaves_0 (i := 18) rfl
theorem dX8_leaves_37 : decode cX8_leaves 37 = .ok (.aload_n 0, 1) := dq daX8_leaves_0 (i := 19) rfl
theorem dX8_leaves_38 : decode cX8_leaves 38 = .ok (.getfield 12, 3) := dq daX8_leaves_0 (i := 20) rfl
theorem dX8_leaves_41 : decode cX8_leaves 41 = .ok (.invokevirtual 65, 3) := dq daX8_leaves_0 (i := 21) rfl
theorem dX8_leaves_44 : decode cX8_leaves 44 = .ok (.iload_n 2, 1) := dq daX8_leaves_0 (i := 22) rfl
theorem dX8_leaves_45 : decode cX8_leaves 45 = .ok (.ireturn, 1) := dq daX8_leaves_0 (i := 23) rfl
theorem daX8_split_0 : dchk cX8_split [(0, .iload_n 1, 1), (1, .aload_n 0, 1), (2, .getfield 12, 3), (5, .getfield 153, 3), (8, .invokestatic 160, 3), (11, .ifCond .ne 5, 3), (14, .iconst (-1), 1), (15, .ireturn, 1), (16, .aload_n 0, 1), (17, .getfield 12, 3), (20, .getfield 156, 3), (23, .iload_n 1, 1), (24, .invokestatic 164, 3), (27, .ifCond .ne 6, 3), (30, .bipush (-5), 2), (32, .ireturn, 1), (33, .aload_n 0, 1), (34, .getfield 12, 3), (37, .aload_n 0, 1), (38, .getfield 12, 3), (41, .getfield 156, 3), (44, .iload_n 1, 1), (45, .invokestatic 168, 3), (48, .putfield 156, 3), (51, .aload_n 0, 1), (52, .getfield 24, 3), (55, .aload_n 0, 1), (56, .getfield 12, 3), (59, .invokevirtual 65, 3), (62, .aload_n 0, 1), (63, .getfield 12, 3), (66, .getfield 156, 3), (69, .invokestatic 172, 3), (72, .ireturn, 1)] = true := by decide +kernel
theorem dX8_split_0 : decode cX8_split 0 = .ok (.iload_n 1, 1) := dq daX8_split_0 (i := 0) rfl
theorem dX8_split_1 : decode cX8_split 1 = .ok (.aload_n 0, 1) := dq daX8_split_0 (i := 1) rfl
theorem dX8_split_2 : decode cX8_split 2 = .ok (.getfield 12, 3) := dq daX8_split_0 (i := 2) rfl
theorem dX8_split_5 : decode cX8_split 5 = .ok (.getfield 153, 3) := dq daX8_split_0 (i := 3) rfl
theorem dX8_split_8 : decode cX8_split 8 = .ok (.invokestatic 160, 3) := dq daX8_split_0 (i := 4) rfl
theorem dX8_split_11 : decode cX8_split 11 = .ok (.ifCond .ne 5, 3) := dq daX8_split_0 (i := 5) rfl
theorem dX8_split_14 : decode cX8_split 14 = .ok (.iconst (-1), 1) := dq daX8_split_0 (i := 6) rfl
theorem dX8_split_15 : decode cX8_split 15 = .ok (.ireturn, 1) := dq daX8_split_0 (i := 7) rfl
theorem dX8_split_16 : decode cX8_split 16 = .ok (.aload_n 0, 1) := dq daX8_split_0 (i := 8) rfl
theorem dX8_split_17 : decode cX8_split 17 = .ok (.getfield 12, 3) := dq daX8_split_0 (i := 9) rfl
theorem dX8_split_20 : decode cX8_split 20 = .ok (.getfield 156, 3) := dq daX8_split_0 (i := 10) rfl
theorem dX8_split_23 : decode cX8_split 23 = .ok (.iload_n 1, 1) := dq daX8_split_0 (i := 11) rfl
theorem dX8_split_24 : decode cX8_split 24 = .ok (.invokestatic 164, 3) := dq daX8_split_0 (i := 12) rfl
theorem dX8_split_27 : decode cX8_split 27 = .ok (.ifCond .ne 6, 3) := dq daX8_split_0 (i := 13) rfl
theorem dX8_split_30 : decode cX8_split 30 = .ok (.bipush (-5), 2) := dq daX8_split_0 (i := 14) rfl
theorem dX8_split_32 : decode cX8_split 32 = .ok (.ireturn, 1) := dq daX8_split_0 (i := 15) rfl
theorem dX8_split_33 : decode cX8_split 33 = .ok (.aload_n 0, 1) := dq daX8_split_0 (i := 16) rfl
theorem dX8_split_34 : decode cX8_split 34 = .ok (.getfield 12, 3) := dq daX8_split_0 (i := 17) rfl
theorem dX8_split_37 : decode cX8_split 37 = .ok (.aload_n 0, 1) := dq daX8_split_0 (i := 18) rfl
theorem dX8_split_38 : decode cX8_split 38 = .ok (.getfield 12, 3) := dq daX8_split_0 (i := 19) rfl
theorem dX8_split_41 : decode cX8_split 41 = .ok (.getfield 156, 3) := dq daX8_split_0 (i := 20) rfl
theorem dX8_split_44 : decode cX8_split 44 = .ok (.iload_n 1, 1) := dq daX8_split_0 (i := 21) rfl
theorem dX8_split_45 : decode cX8_split 45 = .ok (.invokestatic 168, 3) := dq daX8_split_0 (i := 22) rfl
theorem dX8_split_48 : decode cX8_split 48 = .ok (.putfield 156, 3) := dq daX8_split_0 (i := 23) rfl
theorem dX8_split_51 : decode cX8_split 51 = .ok (.aload_n 0, 1) := dq daX8_split_0 (i := 24) rfl
theorem dX8_split_52 : decode cX8_split 52 = .ok (.getfield 24, 3) := dq daX8_split_0 (i := 25) rfl
theorem dX8_split_55 : decode cX8_split 55 = .ok (.aload_n 0, 1) := dq daX8_split_0 (i := 26) rfl
theorem dX8_split_56 : decode cX8_split 56 = .ok (.getfield 12, 3) := dq daX8_split_0 (i := 27) rfl
theorem dX8_split_59 : decode cX8_split 59 = .ok (.invokevirtual 65, 3) := dq daX8_split_0 (i := 28) rfl
theorem dX8_split_62 : decode cX8_split 62 = .ok (.aload_n 0, 1) := dq daX8_split_0 (i := 29) rfl
theorem dX8_split_63 : decode cX8_split 63 = .ok (.getfield 12, 3) := dq daX8_split_0 (i := 30) rfl
theorem dX8_split_66 : decode cX8_split 66 = .ok (.getfield 156, 3) := dq daX8_split_0 (i := 31) rfl
theorem dX8_split_69 : decode cX8_split 69 = .ok (.invokestatic 172, 3) := dq daX8_split_0 (i := 32) rfl
theorem dX8_split_72 : decode cX8_split 72 = .ok (.ireturn, 1) := dq daX8_split_0 (i := 33) rfl
theorem daX8_join_0 : dchk cX8_join [(0, .iload_n 1, 1), (1, .aload_n 0, 1), (2, .getfield 12, 3), (5, .getfield 153, 3), (8, .invokestatic 160, 3), (11, .ifCond .ne 5, 3), (14, .iconst (-1), 1), (15, .ireturn, 1), (16, .aload_n 0, 1), (17, .getfield 12, 3), (20, .getfield 156, 3), (23, .iload_n 1, 1), (24, .invokestatic 175, 3), (27, .ifCond .ne 6, 3), (30, .bipush (-5), 2), (32, .ireturn, 1), (33, .aload_n 0, 1), (34, .getfield 12, 3), (37, .aload_n 0, 1), (38, .getfield 12, 3), (41, .getfield 156, 3), (44, .iload_n 1, 1), (45, .invokestatic 178, 3), (48, .putfield 156, 3), (51, .aload_n 0, 1), (52, .getfield 24, 3), (55, .aload_n 0, 1), (56, .getfield 12, 3), (59, .invokevirtual 65, 3), (62, .aload_n 0, 1), (63, .getfield 12, 3), (66, .getfield 156, 3), (69, .invokestatic 172, 3), (72, .ireturn, 1)] = true := by decide +kernel
theorem dX8_join_0 : decode cX8_join 0 = .ok (.iload_n 1, 1) := dq daX8_join_0 (i := 0) rfl
theorem dX8_join_1 : decode cX8_join 1 = .ok (.aload_n 0, 1) := dq daX8_join_0 (i := 1) rfl
theorem dX8_join_2 : decode cX8_join 2 = .ok (.getfield 12, 3) := dq daX8_join_0 (i := 2) rfl
theorem dX8_join_5 : decode cX8_join 5 = .ok (.getfield 153, 3) := dq daX8_join_0 (i := 3) rfl
theorem dX8_join_8 : decode cX8_join 8 = .ok (.invokestatic 160, 3) := dq daX8_join_0 (i := 4) rfl
theorem dX8_join_11 : decode cX8_join 11 = .ok (.ifCond .ne 5, 3) := dq daX8_join_0 (i := 5) rfl
theorem dX8_join_14 : decode cX8_join 14 = .ok (.iconst (-1), 1) := dq daX8_join_0 (i := 6) rfl
theorem dX8_join_15 : decode cX8_join 15 = .ok (.ireturn, 1) := dq daX8_join_0 (i := 7) rfl
theorem dX8_join_16 : decode cX8_join 16 = .ok (.aload_n 0, 1) := dq daX8_join_0 (i := 8) rfl
theorem dX8_join_17 : decode cX8_join 17 = .ok (.getfield 12, 3) := dq daX8_join_0 (i := 9) rfl
theorem dX8_join_20 : decode cX8_join 20 = .ok (.getfield 156, 3) := dq daX8_join_0 (i := 10) rfl
theorem dX8_join_23 : decode cX8_join 23 = .ok (.iload_n 1, 1) := dq daX8_join_0 (i := 11) rfl
theorem dX8_join_24 : decode cX8_join 24 = .ok (.invokestatic 175, 3) := dq daX8_join_0 (i := 12) rfl
theorem dX8_join_27 : decode cX8_join 27 = .ok (.ifCond .ne 6, 3) := dq daX8_join_0 (i := 13) rfl
theorem dX8_join_30 : decode cX8_join 30 = .ok (.bipush (-5), 2) := dq daX8_join_0 (i := 14) rfl
theorem dX8_join_32 : decode cX8_join 32 = .ok (.ireturn, 1) := dq daX8_join_0 (i := 15) rfl
theorem dX8_join_33 : decode cX8_join 33 = .ok (.aload_n 0, 1) := dq daX8_join_0 (i := 16) rfl
theorem dX8_join_34 : decode cX8_join 34 = .ok (.getfield 12, 3) := dq daX8_join_0 (i := 17) rfl
theorem dX8_join_37 : decode cX8_join 37 = .ok (.aload_n 0, 1) := dq daX8_join_0 (i := 18) rfl
theorem dX8_join_38 : decode cX8_join 38 = .ok (.getfield 12, 3) := dq daX8_join_0 (i := 19) rfl
theorem dX8_join_41 : decode cX8_join 41 = .ok (.getfield 156, 3) := dq daX8_join_0 (i := 20) rfl
theorem dX8_join_44 : decode cX8_join 44 = .ok (.iload_n 1, 1) := dq daX8_join_0 (i := 21) rfl
theorem dX8_join_45 : decode cX8_join 45 = .ok (.invokestatic 178, 3) := dq daX8_join_0 (i := 22) rfl
theorem dX8_join_48 : decode cX8_join 48 = .ok (.putfield 156, 3) := dq daX8_join_0 (i := 23) rfl
theorem dX8_join_51 : decode cX8_join 51 = .ok (.aload_n 0, 1) := dq daX8_join_0 (i := 24) rfl
theorem dX8_join_52 : decode cX8_join 52 = .ok (.getfield 24, 3) := dq daX8_join_0 (i := 25) rfl
theorem dX8_join_55 : decode cX8_join 55 = .ok (.aload_n 0, 1) := dq daX8_join_0 (i := 26) rfl
theorem dX8_join_56 : decode cX8_join 56 = .ok (.getfield 12, 3) := dq daX8_join_0 (i := 27) rfl
theorem dX8_join_59 : decode cX8_join 59 = .ok (.invokevirtual 65, 3) := dq daX8_join_0 (i := 28) rfl
theorem dX8_join_62 : decode cX8_join 62 = .ok (.aload_n 0, 1) := dq daX8_join_0 (i := 29) rfl
theorem dX8_join_63 : decode cX8_join 63 = .ok (.getfield 12, 3) := dq daX8_join_0 (i := 30) rfl
theorem dX8_join_66 : decode cX8_join 66 = .ok (.getfield 156, 3) := dq daX8_join_0 (i := 31) rfl
theorem dX8_join_69 : decode cX8_join 69 = .ok (.invokestatic 172, 3) := dq daX8_join_0 (i := 32) rfl
theorem dX8_join_72 : decode cX8_join 72 = .ok (.ireturn, 1) := dq daX8_join_0 (i := 33) rfl
theorem daX8_splitAt_0 : dchk cX8_splitAt [(0, .iload_n 1, 1), (1, .ifCond .ge 5, 3), (4, .iconst (-1), 1), (5, .ireturn, 1), (6, .aload_n 0, 1), (7, .getfield 12, 3), (10, .getfield 156, 3), (13, .iload_n 1, 1), (14, .invokestatic 181, 3), (17, .istore_n 2, 1), (18, .iload_n 2, 1), (19, .iconst (-1), 1), (20, .if_icmp .ne 8, 3), (23, .bipush (-2), 2), (25, .goto 4, 3), (28, .iload_n 2, 1), (29, .ireturn, 1)] = true := by decide +kernel
theorem dX8_splitAt_0 : decode cX8_splitAt 0 = .ok (.iload_n 1, 1) := dq daX8_splitAt_0 (i := 0) rfl
theorem dX8_splitAt_1 : decode cX8_splitAt 1 = .ok (.ifCond .ge 5, 3) := dq daX8_splitAt_0 (i := 1) rfl
theorem dX8_splitAt_4 : decode cX8_splitAt 4 = .ok (.iconst (-1), 1) := dq daX8_splitAt_0 (i := 2) rfl
theorem dX8_splitAt_5 : decode cX8_splitAt 5 = .ok (.ireturn, 1) := dq daX8_splitAt_0 (i := 3) rfl
theorem dX8_splitAt_6 : decode cX8_splitAt 6 = .ok (.aload_n 0, 1) := dq daX8_splitAt_0 (i := 4) rfl
theorem dX8_splitAt_7 : decode cX8_splitAt 7 = .ok (.getfield 12, 3) := dq daX8_splitAt_0 (i := 5) rfl
theorem dX8_splitAt_10 : decode cX8_splitAt 10 = .ok (.getfield 156, 3) := dq daX8_splitAt_0 (i := 6) rfl
theorem dX8_splitAt_13 : decode cX8_splitAt 13 = .ok (.iload_n 1, 1) := dq daX8_splitAt_0 (i := 7) rfl
theorem dX8_splitAt_14 : decode cX8_splitAt 14 = .ok (.invokestatic 181, 3) := dq daX8_splitAt_0 (i := 8) rfl
theorem dX8_splitAt_17 : decode cX8_splitAt 17 = .ok (.istore_n 2, 1) := dq daX8_splitAt_0 (i := 9) rfl
theorem dX8_splitAt_18 : decode cX8_splitAt 18 = .ok (.iload_n 2, 1) := dq daX8_splitAt_0 (i := 10) rfl
theorem dX8_splitAt_19 : decode cX8_splitAt 19 = .ok (.iconst (-1), 1) := dq daX8_splitAt_0 (i := 11) rfl
theorem dX8_splitAt_20 : decode cX8_splitAt 20 = .ok (.if_icmp .ne 8, 3) := dq daX8_splitAt_0 (i := 12) rfl
theorem dX8_splitAt_23 : decode cX8_splitAt 23 = .ok (.bipush (-2), 2) := dq daX8_splitAt_0 (i := 13) rfl
theorem dX8_splitAt_25 : decode cX8_splitAt 25 = .ok (.goto 4, 3) := dq daX8_splitAt_0 (i := 14) rfl
theorem dX8_splitAt_28 : decode cX8_splitAt 28 = .ok (.iload_n 2, 1) := dq daX8_splitAt_0 (i := 15) rfl
theorem dX8_splitAt_29 : decode cX8_splitAt 29 = .ok (.ireturn, 1) := dq daX8_splitAt_0 (i := 16) rfl
theorem daX8_may_0 : dchk cX8_may [(0, .iload_n 1, 1), (1, .aload_n 0, 1), (2, .getfield 12, 3), (5, .getfield 153, 3), (8, .invokestatic 160, 3), (11, .ifCond .ne 5, 3), (14, .iconst (-1), 1), (15, .ireturn, 1), (16, .aload_n 0, 1), (17, .getfield 12, 3), (20, .getfield 156, 3), (23, .iload_n 1, 1), (24, .invokestatic 164, 3), (27, .ifCond .eq 7, 3), (30, .iconst 1, 1), (31, .goto 4, 3), (34, .iconst 0, 1), (35, .ireturn, 1)] = true := by decide +kernel
theorem dX8_may_0 : decode cX8_may 0 = .ok (.iload_n 1, 1) := dq daX8_may_0 (i := 0) rfl
theorem dX8_may_1 : decode cX8_may 1 = .ok (.aload_n 0, 1) := dq daX8_may_0 (i := 1) rfl
theorem dX8_may_2 : decode cX8_may 2 = .ok (.getfield 12, 3) := dq daX8_may_0 (i := 2) rfl
theorem dX8_may_5 : decode cX8_may 5 = .ok (.getfield 153, 3) := dq daX8_may_0 (i := 3) rfl
theorem dX8_may_8 : decode cX8_may 8 = .ok (.invokestatic 160, 3) := dq daX8_may_0 (i := 4) rfl
theorem dX8_may_11 : decode cX8_may 11 = .ok (.ifCond .ne 5, 3) := dq daX8_may_0 (i := 5) rfl
theorem dX8_may_14 : decode cX8_may 14 = .ok (.iconst (-1), 1) := dq daX8_may_0 (i := 6) rfl
theorem dX8_may_15 : decode cX8_may 15 = .ok (.ireturn, 1) := dq daX8_may_0 (i := 7) rfl
theorem dX8_may_16 : decode cX8_may 16 = .ok (.aload_n 0, 1) := dq daX8_may_0 (i := 8) rfl
theorem dX8_may_17 : decode cX8_may 17 = .ok (.getfield 12, 3) := dq daX8_may_0 (i := 9) rfl
theorem dX8_may_20 : decode cX8_may 20 = .ok (.getfield 156, 3) := dq daX8_may_0 (i := 10) rfl
theorem dX8_may_23 : decode cX8_may 23 = .ok (.iload_n 1, 1) := dq daX8_may_0 (i := 11) rfl
theorem dX8_may_24 : decode cX8_may 24 = .ok (.invokestatic 164, 3) := dq daX8_may_0 (i := 12) rfl
theorem dX8_may_27 : decode cX8_may 27 = .ok (.ifCond .eq 7, 3) := dq daX8_may_0 (i := 13) rfl
theorem dX8_may_30 : decode cX8_may 30 = .ok (.iconst 1, 1) := dq daX8_may_0 (i := 14) rfl
theorem dX8_may_31 : decode cX8_may 31 = .ok (.goto 4, 3) := dq daX8_may_0 (i := 15) rfl
theorem dX8_may_34 : decode cX8_may 34 = .ok (.iconst 0, 1) := dq daX8_may_0 (i := 16) rfl
theorem dX8_may_35 : decode cX8_may 35 = .ok (.ireturn, 1) := dq daX8_may_0 (i := 17) rfl
theorem daX8_valence_0 : dchk cX8_valence [(0, .iload_n 1, 1), (1, .ifCond .eq 19, 3), (4, .iload_n 1, 1), (5, .aload_n 0, 1), (6, .getfield 12, 3), (9, .getfield 153, 3), (12, .invokestatic 160, 3), (15, .ifCond .ne 5, 3), (18, .iconst (-1), 1), (19, .ireturn, 1), (20, .iload_n 1, 1), (21, .ifCond .eq 20, 3), (24, .aload_n 0, 1), (25, .getfield 12, 3), (28, .getfield 156, 3), (31, .iload_n 1, 1), (32, .invokestatic 175, 3), (35, .ifCond .ne 6, 3), (38, .bipush (-5), 2), (40, .ireturn, 1), (41, .iload_n 1, 1), (42, .aload_n 0, 1), (43, .getfield 12, 3), (46, .getfield 153, 3), (49, .invokestatic 185, 3), (52, .istore_n 2, 1), (53, .aload_n 0, 1), (54, .getfield 12, 3), (57, .getfield 156, 3), (60, .iload_n 2, 1), (61, .invokestatic 189, 3), (64, .invokestatic 192, 3), (67, .istore_n 3, 1), (68, .iload_n 3, 1), (69, .aload_n 0, 1), (70, .getfield 12, 3), (73, .getfield 156, 3), (76, .iload_n 2, 1), (77, .invokestatic 197, 3), (80, .iadd, 1)] = true := by decide +kernel
theorem dX8_valence_0 : decode cX8_valence 0 = .ok (.iload_n 1, 1) := dq daX8_valence_0 (i := 0) rfl
theorem dX8_valence_1 : decode cX8_valence 1 = .ok (.ifCond .eq 19, 3) := dq daX8_valence_0 (i := 1) rfl
theorem dX8_valence_4 : decode cX8_valence 4 = .ok (.iload_n 1, 1) := dq daX8_valence_0 (i := 2) rfl
theorem dX8_valence_5 : decode cX8_valence 5 = .ok (.aload_n 0, 1) := dq daX8_valence_0 (i := 3) rfl
theorem dX8_valence_6 : decode cX8_valence 6 = .ok (.getfield 12, 3) := dq daX8_valence_0 (i := 4) rfl
theorem dX8_valence_9 : decode cX8_valence 9 = .ok (.getfield 153, 3) := dq daX8_valence_0 (i := 5) rfl
theorem dX8_valence_12 : decode cX8_valence 12 = .ok (.invokestatic 160, 3) := dq daX8_valence_0 (i := 6) rfl
theorem dX8_valence_15 : decode cX8_valence 15 = .ok (.ifCond .ne 5, 3) := dq daX8_valence_0 (i := 7) rfl
theorem dX8_valence_18 : decode cX8_valence 18 = .ok (.iconst (-1), 1) := dq daX8_valence_0 (i := 8) rfl
theorem dX8_valence_19 : decode cX8_valence 19 = .ok (.ireturn, 1) := dq daX8_valence_0 (i := 9) rfl
theorem dX8_valence_20 : decode cX8_valence 20 = .ok (.iload_n 1, 1) := dq daX8_valence_0 (i := 10) rfl
theorem dX8_valence_21 : decode cX8_valence 21 = .ok (.ifCond .eq 20, 3) := dq daX8_valence_0 (i := 11) rfl
theorem dX8_valence_24 : decode cX8_valence 24 = .ok (.aload_n 0, 1) := dq daX8_valence_0 (i := 12) rfl
theorem dX8_valence_25 : decode cX8_valence 25 = .ok (.getfield 12, 3) := dq daX8_valence_0 (i := 13) rfl
theorem dX8_valence_28 : decode cX8_valence 28 = .ok (.getfield 156, 3) := dq daX8_valence_0 (i := 14) rfl
theorem dX8_valence_31 : decode cX8_valence 31 = .ok (.iload_n 1, 1) := dq daX8_valence_0 (i := 15) rfl
theorem dX8_valence_32 : decode cX8_valence 32 = .ok (.invokestatic 175, 3) := dq daX8_valence_0 (i := 16) rfl
theorem dX8_valence_35 : decode cX8_valence 35 = .ok (.ifCond .ne 6, 3) := dq daX8_valence_0 (i := 17) rfl
theorem dX8_valence_38 : decode cX8_valence 38 = .ok (.bipush (-5), 2) := dq daX8_valence_0 (i := 18) rfl
theorem dX8_valence_40 : decode cX8_valence 40 = .ok (.ireturn, 1) := dq daX8_valence_0 (i := 19) rfl
theorem dX8_valence_41 : decode cX8_valence 41 = .ok (.iload_n 1, 1) := dq daX8_valence_0 (i := 20) rfl
theorem dX8_valence_42 : decode cX8_valence 42 = .ok (.aload_n 0, 1) := dq daX8_valence_0 (i := 21) rfl
theorem dX8_valence_43 : decode cX8_valence 43 = .ok (.getfield 12, 3) := dq daX8_valence_0 (i := 22) rfl
theorem dX8_valence_46 : decode cX8_valence 46 = .ok (.getfield 153, 3) := dq daX8_valence_0 (i := 23) rfl
theorem dX8_valence_49 : decode cX8_valence 49 = .ok (.invokestatic 185, 3) := dq daX8_valence_0 (i := 24) rfl
theorem dX8_valence_52 : decode cX8_valence 52 = .ok (.istore_n 2, 1) := dq daX8_valence_0 (i := 25) rfl
theorem dX8_valence_53 : decode cX8_valence 53 = .ok (.aload_n 0, 1) := dq daX8_valence_0 (i := 26) rfl
theorem dX8_valence_54 : decode cX8_valence 54 = .ok (.getfield 12, 3) := dq daX8_valence_0 (i := 27) rfl
theorem dX8_valence_57 : decode cX8_valence 57 = .ok (.getfield 156, 3) := dq daX8_valence_0 (i := 28) rfl
theorem dX8_valence_60 : decode cX8_valence 60 = .ok (.iload_n 2, 1) := dq daX8_valence_0 (i := 29) rfl
theorem dX8_valence_61 : decode cX8_valence 61 = .ok (.invokestatic 189, 3) := dq daX8_valence_0 (i := 30) rfl
theorem dX8_valence_64 : decode cX8_valence 64 = .ok (.invokestatic 192, 3) := dq daX8_valence_0 (i := 31) rfl
theorem dX8_valence_67 : decode cX8_valence 67 = .ok (.istore_n 3, 1) := dq daX8_valence_0 (i := 32) rfl
theorem dX8_valence_68 : decode cX8_valence 68 = .ok (.iload_n 3, 1) := dq daX8_valence_0 (i := 33) rfl
theorem dX8_valence_69 : decode cX8_valence 69 = .ok (.aload_n 0, 1) := dq daX8_valence_0 (i := 34) rfl
theorem dX8_valence_70 : decode cX8_valence 70 = .ok (.getfield 12, 3) := dq daX8_valence_0 (i := 35) rfl
theorem dX8_valence_73 : decode cX8_valence 73 = .ok (.getfield 156, 3) := dq daX8_valence_0 (i := 36) rfl
theorem dX8_valence_76 : decode cX8_valence 76 = .ok (.iload_n 2, 1) := dq daX8_valence_0 (i := 37) rfl
theorem dX8_valence_77 : decode cX8_valence 77 = .ok (.invokestatic 197, 3) := dq daX8_valence_0 (i := 38) rfl
theorem dX8_valence_80 : decode cX8_valence 80 = .ok (.iadd, 1) := dq daX8_valence_0 (i := 39) rfl
theorem daX8_valence_40 : dchk cX8_valence [(81, .iconst 1, 1), (82, .iadd, 1), (83, .ireturn, 1)] = true := by decide +kernel
theorem dX8_valence_81 : decode cX8_valence 81 = .ok (.iconst 1, 1) := dq daX8_valence_40 (i := 0) rfl
theorem dX8_valence_82 : decode cX8_valence 82 = .ok (.iadd, 1) := dq daX8_valence_40 (i := 1) rfl
theorem dX8_valence_83 : decode cX8_valence 83 = .ok (.ireturn, 1) := dq daX8_valence_40 (i := 2) rfl
theorem daX8_trees_0 : dchk cX8_trees [(0, .iload_n 1, 1), (1, .invokestatic 148, 3), (4, .ifCond .eq 10, 3), (7, .iload_n 2, 1), (8, .invokestatic 200, 3), (11, .ifCond .ne 5, 3), (14, .iconst (-1), 1), (15, .ireturn, 1), (16, .iload_n 1, 1), (17, .iload_n 2, 1), (18, .invokestatic 203, 3), (21, .ireturn, 1)] = true := by decide +kernel
theorem dX8_trees_0 : decode cX8_trees 0 = .ok (.iload_n 1, 1) := dq daX8_trees_0 (i := 0) rfl
theorem dX8_trees_1 : decode cX8_trees 1 = .ok (.invokestatic 148, 3) := dq daX8_trees_0 (i := 1) rfl
theorem dX8_trees_4 : decode cX8_trees 4 = .ok (.ifCond .eq 10, 3) := dq daX8_trees_0 (i := 2) rfl
theorem dX8_trees_7 : decode cX8_trees 7 = .ok (.iload_n 2, 1) := dq daX8_trees_0 (i := 3) rfl
theorem dX8_trees_8 : decode cX8_trees 8 = .ok (.invokestatic 200, 3) := dq daX8_trees_0 (i := 4) rfl
theorem dX8_trees_11 : decode cX8_trees 11 = .ok (.ifCond .ne 5, 3) := dq daX8_trees_0 (i := 5) rfl
theorem dX8_trees_14 : decode cX8_trees 14 = .ok (.iconst (-1), 1) := dq daX8_trees_0 (i := 6) rfl
theorem dX8_trees_15 : decode cX8_trees 15 = .ok (.ireturn, 1) := dq daX8_trees_0 (i := 7) rfl
theorem dX8_trees_16 : decode cX8_trees 16 = .ok (.iload_n 1, 1) := dq daX8_trees_0 (i := 8) rfl
theorem dX8_trees_17 : decode cX8_trees 17 = .ok (.iload_n 2, 1) := dq daX8_trees_0 (i := 9) rfl
theorem dX8_trees_18 : decode cX8_trees 18 = .ok (.invokestatic 203, 3) := dq daX8_trees_0 (i := 10) rfl
theorem dX8_trees_21 : decode cX8_trees 21 = .ok (.ireturn, 1) := dq daX8_trees_0 (i := 11) rfl
theorem daX8_tree_0 : dchk cX8_tree [(0, .iload_n 1, 1), (1, .invokestatic 148, 3), (4, .ifCond .eq 19, 3), (7, .iload_n 2, 1), (8, .invokestatic 200, 3), (11, .ifCond .eq 12, 3), (14, .iload_n 3, 1), (15, .ifCond .lt 8, 3), (18, .iload 4, 2), (20, .ifCond .ge 5, 3), (23, .iconst (-1), 1), (24, .ireturn, 1), (25, .iload_n 1, 1), (26, .iload_n 2, 1), (27, .iload_n 3, 1), (28, .invokestatic 206, 3), (31, .iload 4, 2), (33, .invokestatic 181, 3), (36, .istore 5, 2), (38, .iload 5, 2), (40, .iconst (-1), 1), (41, .if_icmp .ne 8, 3), (44, .bipush (-2), 2), (46, .goto 5, 3), (49, .iload 5, 2), (51, .ireturn, 1)] = true := by decide +kernel
theorem dX8_tree_0 : decode cX8_tree 0 = .ok (.iload_n 1, 1) := dq daX8_tree_0 (i := 0) rfl
theorem dX8_tree_1 : decode cX8_tree 1 = .ok (.invokestatic 148, 3) := dq daX8_tree_0 (i := 1) rfl
theorem dX8_tree_4 : decode cX8_tree 4 = .ok (.ifCond .eq 19, 3) := dq daX8_tree_0 (i := 2) rfl
theorem dX8_tree_7 : decode cX8_tree 7 = .ok (.iload_n 2, 1) := dq daX8_tree_0 (i := 3) rfl
theorem dX8_tree_8 : decode cX8_tree 8 = .ok (.invokestatic 200, 3) := dq daX8_tree_0 (i := 4) rfl
theorem dX8_tree_11 : decode cX8_tree 11 = .ok (.ifCond .eq 12, 3) := dq daX8_tree_0 (i := 5) rfl
theorem dX8_tree_14 : decode cX8_tree 14 = .ok (.iload_n 3, 1) := dq daX8_tree_0 (i := 6) rfl
theorem dX8_tree_15 : decode cX8_tree 15 = .ok (.ifCond .lt 8, 3) := dq daX8_tree_0 (i := 7) rfl
theorem dX8_tree_18 : decode cX8_tree 18 = .ok (.iload 4, 2) := dq daX8_tree_0 (i := 8) rfl
theorem dX8_tree_20 : decode cX8_tree 20 = .ok (.ifCond .ge 5, 3) := dq daX8_tree_0 (i := 9) rfl
theorem dX8_tree_23 : decode cX8_tree 23 = .ok (.iconst (-1), 1) := dq daX8_tree_0 (i := 10) rfl
theorem dX8_tree_24 : decode cX8_tree 24 = .ok (.ireturn, 1) := dq daX8_tree_0 (i := 11) rfl
theorem dX8_tree_25 : decode cX8_tree 25 = .ok (.iload_n 1, 1) := dq daX8_tree_0 (i := 12) rfl
theorem dX8_tree_26 : decode cX8_tree 26 = .ok (.iload_n 2, 1) := dq daX8_tree_0 (i := 13) rfl
theorem dX8_tree_27 : decode cX8_tree 27 = .ok (.iload_n 3, 1) := dq daX8_tree_0 (i := 14) rfl
theorem dX8_tree_28 : decode cX8_tree 28 = .ok (.invokestatic 206, 3) := dq daX8_tree_0 (i := 15) rfl
theorem dX8_tree_31 : decode cX8_tree 31 = .ok (.iload 4, 2) := dq daX8_tree_0 (i := 16) rfl
theorem dX8_tree_33 : decode cX8_tree 33 = .ok (.invokestatic 181, 3) := dq daX8_tree_0 (i := 17) rfl
theorem dX8_tree_36 : decode cX8_tree 36 = .ok (.istore 5, 2) := dq daX8_tree_0 (i := 18) rfl
theorem dX8_tree_38 : decode cX8_tree 38 = .ok (.iload 5, 2) := dq daX8_tree_0 (i := 19) rfl
theorem dX8_tree_40 : decode cX8_tree 40 = .ok (.iconst (-1), 1) := dq daX8_tree_0 (i := 20) rfl
theorem dX8_tree_41 : decode cX8_tree 41 = .ok (.if_icmp .ne 8, 3) := dq daX8_tree_0 (i := 21) rfl
theorem dX8_tree_44 : decode cX8_tree 44 = .ok (.bipush (-2), 2) := dq daX8_tree_0 (i := 22) rfl
theorem dX8_tree_46 : decode cX8_tree 46 = .ok (.goto 5, 3) := dq daX8_tree_0 (i := 23) rfl
theorem dX8_tree_49 : decode cX8_tree 49 = .ok (.iload 5, 2) := dq daX8_tree_0 (i := 24) rfl
theorem dX8_tree_51 : decode cX8_tree 51 = .ok (.ireturn, 1) := dq daX8_tree_0 (i := 25) rfl
theorem daX8_forget_0 : dchk cX8_forget [(0, .iload_n 1, 1), (1, .ifCond .lt 14, 3), (4, .iload_n 1, 1), (5, .aload_n 0, 1), (6, .getfield 12, 3), (9, .getfield 153, 3), (12, .if_icmp .lt 5, 3), (15, .iconst (-1), 1), (16, .ireturn, 1), (17, .aload_n 0, 1), (18, .getfield 12, 3), (21, .getfield 153, 3), (24, .iconst 3, 1), (25, .if_icmp .gt 6, 3), (28, .bipush (-5), 2), (30, .ireturn, 1), (31, .aload_n 0, 1), (32, .getfield 12, 3), (35, .aload_n 0, 1), (36, .getfield 12, 3), (39, .getfield 156, 3), (42, .aload_n 0, 1), (43, .getfield 12, 3), (46, .getfield 153, 3), (49, .iload_n 1, 1), (50, .invokestatic 209, 3), (53, .putfield 156, 3), (56, .aload_n 0, 1), (57, .getfield 12, 3), (60, .dup, 1), (61, .getfield 153, 3), (64, .iconst 1, 1), (65, .isub, 1), (66, .putfield 153, 3), (69, .aload_n 0, 1), (70, .getfield 24, 3), (73, .aload_n 0, 1), (74, .getfield 12, 3), (77, .invokevirtual 65, 3), (80, .aload_n 0, 1)] = true := by decide +kernel
theorem dX8_forget_0 : decode cX8_forget 0 = .ok (.iload_n 1, 1) := dq daX8_forget_0 (i := 0) rfl
theorem dX8_forget_1 : decode cX8_forget 1 = .ok (.ifCond .lt 14, 3) := dq daX8_forget_0 (i := 1) rfl
theorem dX8_forget_4 : decode cX8_forget 4 = .ok (.iload_n 1, 1) := dq daX8_forget_0 (i := 2) rfl
theorem dX8_forget_5 : decode cX8_forget 5 = .ok (.aload_n 0, 1) := dq daX8_forget_0 (i := 3) rfl
theorem dX8_forget_6 : decode cX8_forget 6 = .ok (.getfield 12, 3) := dq daX8_forget_0 (i := 4) rfl
theorem dX8_forget_9 : decode cX8_forget 9 = .ok (.getfield 153, 3) := dq daX8_forget_0 (i := 5) rfl
theorem dX8_forget_12 : decode cX8_forget 12 = .ok (.if_icmp .lt 5, 3) := dq daX8_forget_0 (i := 6) rfl
theorem dX8_forget_15 : decode cX8_forget 15 = .ok (.iconst (-1), 1) := dq daX8_forget_0 (i := 7) rfl
theorem dX8_forget_16 : decode cX8_forget 16 = .ok (.ireturn, 1) := dq daX8_forget_0 (i := 8) rfl
theorem dX8_forget_17 : decode cX8_forget 17 = .ok (.aload_n 0, 1) := dq daX8_forget_0 (i := 9) rfl
theorem dX8_forget_18 : decode cX8_forget 18 = .ok (.getfield 12, 3) := dq daX8_forget_0 (i := 10) rfl
theorem dX8_forget_21 : decode cX8_forget 21 = .ok (.getfield 153, 3) := dq daX8_forget_0 (i := 11) rfl
theorem dX8_forget_24 : decode cX8_forget 24 = .ok (.iconst 3, 1) := dq daX8_forget_0 (i := 12) rfl
theorem dX8_forget_25 : decode cX8_forget 25 = .ok (.if_icmp .gt 6, 3) := dq daX8_forget_0 (i := 13) rfl
theorem dX8_forget_28 : decode cX8_forget 28 = .ok (.bipush (-5), 2) := dq daX8_forget_0 (i := 14) rfl
theorem dX8_forget_30 : decode cX8_forget 30 = .ok (.ireturn, 1) := dq daX8_forget_0 (i := 15) rfl
theorem dX8_forget_31 : decode cX8_forget 31 = .ok (.aload_n 0, 1) := dq daX8_forget_0 (i := 16) rfl
theorem dX8_forget_32 : decode cX8_forget 32 = .ok (.getfield 12, 3) := dq daX8_forget_0 (i := 17) rfl
theorem dX8_forget_35 : decode cX8_forget 35 = .ok (.aload_n 0, 1) := dq daX8_forget_0 (i := 18) rfl
theorem dX8_forget_36 : decode cX8_forget 36 = .ok (.getfield 12, 3) := dq daX8_forget_0 (i := 19) rfl
theorem dX8_forget_39 : decode cX8_forget 39 = .ok (.getfield 156, 3) := dq daX8_forget_0 (i := 20) rfl
theorem dX8_forget_42 : decode cX8_forget 42 = .ok (.aload_n 0, 1) := dq daX8_forget_0 (i := 21) rfl
theorem dX8_forget_43 : decode cX8_forget 43 = .ok (.getfield 12, 3) := dq daX8_forget_0 (i := 22) rfl
theorem dX8_forget_46 : decode cX8_forget 46 = .ok (.getfield 153, 3) := dq daX8_forget_0 (i := 23) rfl
theorem dX8_forget_49 : decode cX8_forget 49 = .ok (.iload_n 1, 1) := dq daX8_forget_0 (i := 24) rfl
theorem dX8_forget_50 : decode cX8_forget 50 = .ok (.invokestatic 209, 3) := dq daX8_forget_0 (i := 25) rfl
theorem dX8_forget_53 : decode cX8_forget 53 = .ok (.putfield 156, 3) := dq daX8_forget_0 (i := 26) rfl
theorem dX8_forget_56 : decode cX8_forget 56 = .ok (.aload_n 0, 1) := dq daX8_forget_0 (i := 27) rfl
theorem dX8_forget_57 : decode cX8_forget 57 = .ok (.getfield 12, 3) := dq daX8_forget_0 (i := 28) rfl
theorem dX8_forget_60 : decode cX8_forget 60 = .ok (.dup, 1) := dq daX8_forget_0 (i := 29) rfl
theorem dX8_forget_61 : decode cX8_forget 61 = .ok (.getfield 153, 3) := dq daX8_forget_0 (i := 30) rfl
theorem dX8_forget_64 : decode cX8_forget 64 = .ok (.iconst 1, 1) := dq daX8_forget_0 (i := 31) rfl
theorem dX8_forget_65 : decode cX8_forget 65 = .ok (.isub, 1) := dq daX8_forget_0 (i := 32) rfl
theorem dX8_forget_66 : decode cX8_forget 66 = .ok (.putfield 153, 3) := dq daX8_forget_0 (i := 33) rfl
theorem dX8_forget_69 : decode cX8_forget 69 = .ok (.aload_n 0, 1) := dq daX8_forget_0 (i := 34) rfl
theorem dX8_forget_70 : decode cX8_forget 70 = .ok (.getfield 24, 3) := dq daX8_forget_0 (i := 35) rfl
theorem dX8_forget_73 : decode cX8_forget 73 = .ok (.aload_n 0, 1) := dq daX8_forget_0 (i := 36) rfl
theorem dX8_forget_74 : decode cX8_forget 74 = .ok (.getfield 12, 3) := dq daX8_forget_0 (i := 37) rfl
theorem dX8_forget_77 : decode cX8_forget 77 = .ok (.invokevirtual 65, 3) := dq daX8_forget_0 (i := 38) rfl
theorem dX8_forget_80 : decode cX8_forget 80 = .ok (.aload_n 0, 1) := dq daX8_forget_0 (i := 39) rfl
theorem daX8_forget_40 : dchk cX8_forget [(81, .getfield 12, 3), (84, .getfield 156, 3), (87, .invokestatic 172, 3), (90, .ireturn, 1)] = true := by decide +kernel
theorem dX8_forget_81 : decode cX8_forget 81 = .ok (.getfield 12, 3) := dq daX8_forget_40 (i := 0) rfl
theorem dX8_forget_84 : decode cX8_forget 84 = .ok (.getfield 156, 3) := dq daX8_forget_40 (i := 1) rfl
theorem dX8_forget_87 : decode cX8_forget 87 = .ok (.invokestatic 172, 3) := dq daX8_forget_40 (i := 2) rfl
theorem dX8_forget_90 : decode cX8_forget 90 = .ok (.ireturn, 1) := dq daX8_forget_40 (i := 3) rfl
theorem daX8_onTree_0 : dchk cX8_onTree [(0, .aload_n 0, 1), (1, .getfield 12, 3), (4, .getfield 73, 3), (7, .aload_n 0, 1), (8, .getfield 12, 3), (11, .getfield 153, 3), (14, .if_icmp .eq 7, 3), (17, .ldc2_w 114, 3), (20, .lreturn, 1), (21, .aload_n 0, 1), (22, .iconst 0, 1), (23, .invokevirtual 213, 3), (26, .lstore_n 1, 1), (27, .aload_n 0, 1), (28, .getfield 12, 3), (31, .getfield 156, 3), (34, .invokestatic 172, 3), (37, .istore_n 3, 1), (38, .iconst 0, 1), (39, .istore 4, 2), (41, .iload 4, 2), (43, .iload_n 3, 1), (44, .if_icmp .ge 28, 3), (47, .lload_n 1, 1), (48, .aload_n 0, 1), (49, .aload_n 0, 1), (50, .getfield 12, 3), (53, .getfield 156, 3), (56, .iload 4, 2), (58, .invokestatic 181, 3), (61, .invokevirtual 213, 3), (64, .lmul, 1), (65, .lstore_n 1, 1), (66, .iinc 4 1, 3), (69, .goto (-28), 3), (72, .lload_n 1, 1), (73, .lreturn, 1)] = true := by decide +kernel
theorem dX8_onTree_0 : decode cX8_onTree 0 = .ok (.aload_n 0, 1) := dq daX8_onTree_0 (i := 0) rfl
theorem dX8_onTree_1 : decode cX8_onTree 1 = .ok (.getfield 12, 3) := dq daX8_onTree_0 (i := 1) rfl
theorem dX8_onTree_4 : decode cX8_onTree 4 = .ok (.getfield 73, 3) := dq daX8_onTree_0 (i := 2) rfl
theorem dX8_onTree_7 : decode cX8_onTree 7 = .ok (.aload_n 0, 1) := dq daX8_onTree_0 (i := 3) rfl
theorem dX8_onTree_8 : decode cX8_onTree 8 = .ok (.getfield 12, 3) := dq daX8_onTree_0 (i := 4) rfl
theorem dX8_onTree_11 : decode cX8_onTree 11 = .ok (.getfield 153, 3) := dq daX8_onTree_0 (i := 5) rfl
theorem dX8_onTree_14 : decode cX8_onTree 14 = .ok (.if_icmp .eq 7, 3) := dq daX8_onTree_0 (i := 6) rfl
theorem dX8_onTree_17 : decode cX8_onTree 17 = .ok (.ldc2_w 114, 3) := dq daX8_onTree_0 (i := 7) rfl
theorem dX8_onTree_20 : decode cX8_onTree 20 = .ok (.lreturn, 1) := dq daX8_onTree_0 (i := 8) rfl
theorem dX8_onTree_21 : decode cX8_onTree 21 = .ok (.aload_n 0, 1) := dq daX8_onTree_0 (i := 9) rfl
theorem dX8_onTree_22 : decode cX8_onTree 22 = .ok (.iconst 0, 1) := dq daX8_onTree_0 (i := 10) rfl
theorem dX8_onTree_23 : decode cX8_onTree 23 = .ok (.invokevirtual 213, 3) := dq daX8_onTree_0 (i := 11) rfl
theorem dX8_onTree_26 : decode cX8_onTree 26 = .ok (.lstore_n 1, 1) := dq daX8_onTree_0 (i := 12) rfl
theorem dX8_onTree_27 : decode cX8_onTree 27 = .ok (.aload_n 0, 1) := dq daX8_onTree_0 (i := 13) rfl
theorem dX8_onTree_28 : decode cX8_onTree 28 = .ok (.getfield 12, 3) := dq daX8_onTree_0 (i := 14) rfl
theorem dX8_onTree_31 : decode cX8_onTree 31 = .ok (.getfield 156, 3) := dq daX8_onTree_0 (i := 15) rfl
theorem dX8_onTree_34 : decode cX8_onTree 34 = .ok (.invokestatic 172, 3) := dq daX8_onTree_0 (i := 16) rfl
theorem dX8_onTree_37 : decode cX8_onTree 37 = .ok (.istore_n 3, 1) := dq daX8_onTree_0 (i := 17) rfl
theorem dX8_onTree_38 : decode cX8_onTree 38 = .ok (.iconst 0, 1) := dq daX8_onTree_0 (i := 18) rfl
theorem dX8_onTree_39 : decode cX8_onTree 39 = .ok (.istore 4, 2) := dq daX8_onTree_0 (i := 19) rfl
theorem dX8_onTree_41 : decode cX8_onTree 41 = .ok (.iload 4, 2) := dq daX8_onTree_0 (i := 20) rfl
theorem dX8_onTree_43 : decode cX8_onTree 43 = .ok (.iload_n 3, 1) := dq daX8_onTree_0 (i := 21) rfl
theorem dX8_onTree_44 : decode cX8_onTree 44 = .ok (.if_icmp .ge 28, 3) := dq daX8_onTree_0 (i := 22) rfl
theorem dX8_onTree_47 : decode cX8_onTree 47 = .ok (.lload_n 1, 1) := dq daX8_onTree_0 (i := 23) rfl
theorem dX8_onTree_48 : decode cX8_onTree 48 = .ok (.aload_n 0, 1) := dq daX8_onTree_0 (i := 24) rfl
theorem dX8_onTree_49 : decode cX8_onTree 49 = .ok (.aload_n 0, 1) := dq daX8_onTree_0 (i := 25) rfl
theorem dX8_onTree_50 : decode cX8_onTree 50 = .ok (.getfield 12, 3) := dq daX8_onTree_0 (i := 26) rfl
theorem dX8_onTree_53 : decode cX8_onTree 53 = .ok (.getfield 156, 3) := dq daX8_onTree_0 (i := 27) rfl
theorem dX8_onTree_56 : decode cX8_onTree 56 = .ok (.iload 4, 2) := dq daX8_onTree_0 (i := 28) rfl
theorem dX8_onTree_58 : decode cX8_onTree 58 = .ok (.invokestatic 181, 3) := dq daX8_onTree_0 (i := 29) rfl
theorem dX8_onTree_61 : decode cX8_onTree 61 = .ok (.invokevirtual 213, 3) := dq daX8_onTree_0 (i := 30) rfl
theorem dX8_onTree_64 : decode cX8_onTree 64 = .ok (.lmul, 1) := dq daX8_onTree_0 (i := 31) rfl
theorem dX8_onTree_65 : decode cX8_onTree 65 = .ok (.lstore_n 1, 1) := dq daX8_onTree_0 (i := 32) rfl
theorem dX8_onTree_66 : decode cX8_onTree 66 = .ok (.iinc 4 1, 3) := dq daX8_onTree_0 (i := 33) rfl
theorem dX8_onTree_69 : decode cX8_onTree 69 = .ok (.goto (-28), 3) := dq daX8_onTree_0 (i := 34) rfl
theorem dX8_onTree_72 : decode cX8_onTree 72 = .ok (.lload_n 1, 1) := dq daX8_onTree_0 (i := 35) rfl
theorem dX8_onTree_73 : decode cX8_onTree 73 = .ok (.lreturn, 1) := dq daX8_onTree_0 (i := 36) rfl
theorem daX8_undo_0 : dchk cX8_undo [(0, .aload_n 0, 1), (1, .getfield 24, 3), (4, .invokevirtual 216, 3), (7, .ifCond .ne 6, 3), (10, .bipush (-5), 2), (12, .ireturn, 1), (13, .aload_n 0, 1), (14, .getfield 24, 3), (17, .aload_n 0, 1), (18, .getfield 12, 3), (21, .invokevirtual 220, 3), (24, .aload_n 0, 1), (25, .getfield 24, 3), (28, .invokevirtual 216, 3), (31, .ireturn, 1)] = true := by decide +kernel
theorem dX8_undo_0 : decode cX8_undo 0 = .ok (.aload_n 0, 1) := dq daX8_undo_0 (i := 0) rfl
theorem dX8_undo_1 : decode cX8_undo 1 = .ok (.getfield 24, 3) := dq daX8_undo_0 (i := 1) rfl
theorem dX8_undo_4 : decode cX8_undo 4 = .ok (.invokevirtual 216, 3) := dq daX8_undo_0 (i := 2) rfl
theorem dX8_undo_7 : decode cX8_undo 7 = .ok (.ifCond .ne 6, 3) := dq daX8_undo_0 (i := 3) rfl
theorem dX8_undo_10 : decode cX8_undo 10 = .ok (.bipush (-5), 2) := dq daX8_undo_0 (i := 4) rfl
theorem dX8_undo_12 : decode cX8_undo 12 = .ok (.ireturn, 1) := dq daX8_undo_0 (i := 5) rfl
theorem dX8_undo_13 : decode cX8_undo 13 = .ok (.aload_n 0, 1) := dq daX8_undo_0 (i := 6) rfl
theorem dX8_undo_14 : decode cX8_undo 14 = .ok (.getfield 24, 3) := dq daX8_undo_0 (i := 7) rfl
theorem dX8_undo_17 : decode cX8_undo 17 = .ok (.aload_n 0, 1) := dq daX8_undo_0 (i := 8) rfl
theorem dX8_undo_18 : decode cX8_undo 18 = .ok (.getfield 12, 3) := dq daX8_undo_0 (i := 9) rfl
theorem dX8_undo_21 : decode cX8_undo 21 = .ok (.invokevirtual 220, 3) := dq daX8_undo_0 (i := 10) rfl
theorem dX8_undo_24 : decode cX8_undo 24 = .ok (.aload_n 0, 1) := dq daX8_undo_0 (i := 11) rfl
theorem dX8_undo_25 : decode cX8_undo 25 = .ok (.getfield 24, 3) := dq daX8_undo_0 (i := 12) rfl
theorem dX8_undo_28 : decode cX8_undo 28 = .ok (.invokevirtual 216, 3) := dq daX8_undo_0 (i := 13) rfl
theorem dX8_undo_31 : decode cX8_undo 31 = .ok (.ireturn, 1) := dq daX8_undo_0 (i := 14) rfl
theorem daX8_again_0 : dchk cX8_again [(0, .aload_n 0, 1), (1, .getfield 24, 3), (4, .invokevirtual 223, 3), (7, .ifCond .ne 6, 3), (10, .bipush (-5), 2), (12, .ireturn, 1), (13, .aload_n 0, 1), (14, .getfield 24, 3), (17, .aload_n 0, 1), (18, .getfield 12, 3), (21, .invokevirtual 226, 3), (24, .aload_n 0, 1), (25, .getfield 24, 3), (28, .invokevirtual 223, 3), (31, .ireturn, 1)] = true := by decide +kernel
theorem dX8_again_0 : decode cX8_again 0 = .ok (.aload_n 0, 1) := dq daX8_again_0 (i := 0) rfl
theorem dX8_again_1 : decode cX8_again 1 = .ok (.getfield 24, 3) := dq daX8_again_0 (i := 1) rfl
theorem dX8_again_4 : decode cX8_again 4 = .ok (.invokevirtual 223, 3) := dq daX8_again_0 (i := 2) rfl
theorem dX8_again_7 : decode cX8_again 7 = .ok (.ifCond .ne 6, 3) := dq daX8_again_0 (i := 3) rfl
theorem dX8_again_10 : decode cX8_again 10 = .ok (.bipush (-5), 2) := dq daX8_again_0 (i := 4) rfl
theorem dX8_again_12 : decode cX8_again 12 = .ok (.ireturn, 1) := dq daX8_again_0 (i := 5) rfl
theorem dX8_again_13 : decode cX8_again 13 = .ok (.aload_n 0, 1) := dq daX8_again_0 (i := 6) rfl
theorem dX8_again_14 : decode cX8_again 14 = .ok (.getfield 24, 3) := dq daX8_again_0 (i := 7) rfl
theorem dX8_again_17 : decode cX8_again 17 = .ok (.aload_n 0, 1) := dq daX8_again_0 (i := 8) rfl
theorem dX8_again_18 : decode cX8_again 18 = .ok (.getfield 12, 3) := dq daX8_again_0 (i := 9) rfl
theorem dX8_again_21 : decode cX8_again 21 = .ok (.invokevirtual 226, 3) := dq daX8_again_0 (i := 10) rfl
theorem dX8_again_24 : decode cX8_again 24 = .ok (.aload_n 0, 1) := dq daX8_again_0 (i := 11) rfl
theorem dX8_again_25 : decode cX8_again 25 = .ok (.getfield 24, 3) := dq daX8_again_0 (i := 12) rfl
theorem dX8_again_28 : decode cX8_again 28 = .ok (.invokevirtual 223, 3) := dq daX8_again_0 (i := 13) rfl
theorem dX8_again_31 : decode cX8_again 31 = .ok (.ireturn, 1) := dq daX8_again_0 (i := 14) rfl
theorem daX8_feed_0 : dchk cX8_feed [(0, .iload_n 2, 1), (1, .iconst 1, 1), (2, .if_icmp .lt 8, 3), (5, .iload_n 2, 1), (6, .iconst 4, 1), (7, .if_icmp .le 5, 3), (10, .iconst (-1), 1), (11, .ireturn, 1), (12, .aload_n 0, 1), (13, .getfield 46, 3), (16, .getfield 229, 3), (19, .iload_n 2, 1), (20, .iadd, 1), (21, .bipush 60, 2), (23, .if_icmp .le 6, 3), (26, .bipush (-3), 2), (28, .ireturn, 1), (29, .iload_n 2, 1), (30, .iconst 1, 1), (31, .isub, 1), (32, .istore_n 3, 1), (33, .iload_n 3, 1), (34, .ifCond .lt 26, 3), (37, .aload_n 0, 1), (38, .getfield 46, 3), (41, .iload_n 1, 1), (42, .bipush 8, 2), (44, .iload_n 3, 1), (45, .imul, 1), (46, .iushr, 1), (47, .sipush 255, 3), (50, .iand, 1), (51, .invokevirtual 232, 3), (54, .iinc 3 (-1), 3), (57, .goto (-24), 3), (60, .aload_n 0, 1), (61, .getfield 46, 3), (64, .getfield 229, 3), (67, .ireturn, 1)] = true := by decide +kernel
theorem dX8_feed_0 : decode cX8_feed 0 = .ok (.iload_n 2, 1) := dq daX8_feed_0 (i := 0) rfl
theorem dX8_feed_1 : decode cX8_feed 1 = .ok (.iconst 1, 1) := dq daX8_feed_0 (i := 1) rfl
theorem dX8_feed_2 : decode cX8_feed 2 = .ok (.if_icmp .lt 8, 3) := dq daX8_feed_0 (i := 2) rfl
theorem dX8_feed_5 : decode cX8_feed 5 = .ok (.iload_n 2, 1) := dq daX8_feed_0 (i := 3) rfl
theorem dX8_feed_6 : decode cX8_feed 6 = .ok (.iconst 4, 1) := dq daX8_feed_0 (i := 4) rfl
theorem dX8_feed_7 : decode cX8_feed 7 = .ok (.if_icmp .le 5, 3) := dq daX8_feed_0 (i := 5) rfl
theorem dX8_feed_10 : decode cX8_feed 10 = .ok (.iconst (-1), 1) := dq daX8_feed_0 (i := 6) rfl
theorem dX8_feed_11 : decode cX8_feed 11 = .ok (.ireturn, 1) := dq daX8_feed_0 (i := 7) rfl
theorem dX8_feed_12 : decode cX8_feed 12 = .ok (.aload_n 0, 1) := dq daX8_feed_0 (i := 8) rfl
theorem dX8_feed_13 : decode cX8_feed 13 = .ok (.getfield 46, 3) := dq daX8_feed_0 (i := 9) rfl
theorem dX8_feed_16 : decode cX8_feed 16 = .ok (.getfield 229, 3) := dq daX8_feed_0 (i := 10) rfl
theorem dX8_feed_19 : decode cX8_feed 19 = .ok (.iload_n 2, 1) := dq daX8_feed_0 (i := 11) rfl
theorem dX8_feed_20 : decode cX8_feed 20 = .ok (.iadd, 1) := dq daX8_feed_0 (i := 12) rfl
theorem dX8_feed_21 : decode cX8_feed 21 = .ok (.bipush 60, 2) := dq daX8_feed_0 (i := 13) rfl
theorem dX8_feed_23 : decode cX8_feed 23 = .ok (.if_icmp .le 6, 3) := dq daX8_feed_0 (i := 14) rfl
theorem dX8_feed_26 : decode cX8_feed 26 = .ok (.bipush (-3), 2) := dq daX8_feed_0 (i := 15) rfl
theorem dX8_feed_28 : decode cX8_feed 28 = .ok (.ireturn, 1) := dq daX8_feed_0 (i := 16) rfl
theorem dX8_feed_29 : decode cX8_feed 29 = .ok (.iload_n 2, 1) := dq daX8_feed_0 (i := 17) rfl
theorem dX8_feed_30 : decode cX8_feed 30 = .ok (.iconst 1, 1) := dq daX8_feed_0 (i := 18) rfl
theorem dX8_feed_31 : decode cX8_feed 31 = .ok (.isub, 1) := dq daX8_feed_0 (i := 19) rfl
theorem dX8_feed_32 : decode cX8_feed 32 = .ok (.istore_n 3, 1) := dq daX8_feed_0 (i := 20) rfl
theorem dX8_feed_33 : decode cX8_feed 33 = .ok (.iload_n 3, 1) := dq daX8_feed_0 (i := 21) rfl
theorem dX8_feed_34 : decode cX8_feed 34 = .ok (.ifCond .lt 26, 3) := dq daX8_feed_0 (i := 22) rfl
theorem dX8_feed_37 : decode cX8_feed 37 = .ok (.aload_n 0, 1) := dq daX8_feed_0 (i := 23) rfl
theorem dX8_feed_38 : decode cX8_feed 38 = .ok (.getfield 46, 3) := dq daX8_feed_0 (i := 24) rfl
theorem dX8_feed_41 : decode cX8_feed 41 = .ok (.iload_n 1, 1) := dq daX8_feed_0 (i := 25) rfl
theorem dX8_feed_42 : decode cX8_feed 42 = .ok (.bipush 8, 2) := dq daX8_feed_0 (i := 26) rfl
theorem dX8_feed_44 : decode cX8_feed 44 = .ok (.iload_n 3, 1) := dq daX8_feed_0 (i := 27) rfl
theorem dX8_feed_45 : decode cX8_feed 45 = .ok (.imul, 1) := dq daX8_feed_0 (i := 28) rfl
theorem dX8_feed_46 : decode cX8_feed 46 = .ok (.iushr, 1) := dq daX8_feed_0 (i := 29) rfl
theorem dX8_feed_47 : decode cX8_feed 47 = .ok (.sipush 255, 3) := dq daX8_feed_0 (i := 30) rfl
theorem dX8_feed_50 : decode cX8_feed 50 = .ok (.iand, 1) := dq daX8_feed_0 (i := 31) rfl
theorem dX8_feed_51 : decode cX8_feed 51 = .ok (.invokevirtual 232, 3) := dq daX8_feed_0 (i := 32) rfl
theorem dX8_feed_54 : decode cX8_feed 54 = .ok (.iinc 3 (-1), 3) := dq daX8_feed_0 (i := 33) rfl
theorem dX8_feed_57 : decode cX8_feed 57 = .ok (.goto (-24), 3) := dq daX8_feed_0 (i := 34) rfl
theorem dX8_feed_60 : decode cX8_feed 60 = .ok (.aload_n 0, 1) := dq daX8_feed_0 (i := 35) rfl
theorem dX8_feed_61 : decode cX8_feed 61 = .ok (.getfield 46, 3) := dq daX8_feed_0 (i := 36) rfl
theorem dX8_feed_64 : decode cX8_feed 64 = .ok (.getfield 229, 3) := dq daX8_feed_0 (i := 37) rfl
theorem dX8_feed_67 : decode cX8_feed 67 = .ok (.ireturn, 1) := dq daX8_feed_0 (i := 38) rfl
theorem daX8_wipe_0 : dchk cX8_wipe [(0, .aload_n 0, 1), (1, .getfield 46, 3), (4, .getfield 229, 3), (7, .istore_n 1, 1), (8, .aload_n 0, 1), (9, .getfield 46, 3), (12, .iconst 0, 1), (13, .putfield 229, 3), (16, .iload_n 1, 1), (17, .ireturn, 1)] = true := by decide +kernel
theorem dX8_wipe_0 : decode cX8_wipe 0 = .ok (.aload_n 0, 1) := dq daX8_wipe_0 (i := 0) rfl
theorem dX8_wipe_1 : decode cX8_wipe 1 = .ok (.getfield 46, 3) := dq daX8_wipe_0 (i := 1) rfl
theorem dX8_wipe_4 : decode cX8_wipe 4 = .ok (.getfield 229, 3) := dq daX8_wipe_0 (i := 2) rfl
theorem dX8_wipe_7 : decode cX8_wipe 7 = .ok (.istore_n 1, 1) := dq daX8_wipe_0 (i := 3) rfl
theorem dX8_wipe_8 : decode cX8_wipe 8 = .ok (.aload_n 0, 1) := dq daX8_wipe_0 (i := 4) rfl
theorem dX8_wipe_9 : decode cX8_wipe 9 = .ok (.getfield 46, 3) := dq daX8_wipe_0 (i := 5) rfl
theorem dX8_wipe_12 : decode cX8_wipe 12 = .ok (.iconst 0, 1) := dq daX8_wipe_0 (i := 6) rfl
theorem dX8_wipe_13 : decode cX8_wipe 13 = .ok (.putfield 229, 3) := dq daX8_wipe_0 (i := 7) rfl
theorem dX8_wipe_16 : decode cX8_wipe 16 = .ok (.iload_n 1, 1) := dq daX8_wipe_0 (i := 8) rfl
theorem dX8_wipe_17 : decode cX8_wipe 17 = .ok (.ireturn, 1) := dq daX8_wipe_0 (i := 9) rfl
theorem daX8_read_0 : dchk cX8_read [(0, .aload_n 0, 1), (1, .getfield 38, 3), (4, .aload_n 0, 1), (5, .getfield 12, 3), (8, .invokevirtual 235, 3), (11, .istore_n 1, 1), (12, .aload_n 0, 1), (13, .getfield 46, 3), (16, .iconst 0, 1), (17, .putfield 229, 3), (20, .aload_n 0, 1), (21, .getfield 24, 3), (24, .aload_n 0, 1), (25, .getfield 12, 3), (28, .invokevirtual 65, 3), (31, .iload_n 1, 1), (32, .ireturn, 1)] = true := by decide +kernel
theorem dX8_read_0 : decode cX8_read 0 = .ok (.aload_n 0, 1) := dq daX8_read_0 (i := 0) rfl
theorem dX8_read_1 : decode cX8_read 1 = .ok (.getfield 38, 3) := dq daX8_read_0 (i := 1) rfl
theorem dX8_read_4 : decode cX8_read 4 = .ok (.aload_n 0, 1) := dq daX8_read_0 (i := 2) rfl
theorem dX8_read_5 : decode cX8_read 5 = .ok (.getfield 12, 3) := dq daX8_read_0 (i := 3) rfl
theorem dX8_read_8 : decode cX8_read 8 = .ok (.invokevirtual 235, 3) := dq daX8_read_0 (i := 4) rfl
theorem dX8_read_11 : decode cX8_read 11 = .ok (.istore_n 1, 1) := dq daX8_read_0 (i := 5) rfl
theorem dX8_read_12 : decode cX8_read 12 = .ok (.aload_n 0, 1) := dq daX8_read_0 (i := 6) rfl
theorem dX8_read_13 : decode cX8_read 13 = .ok (.getfield 46, 3) := dq daX8_read_0 (i := 7) rfl
theorem dX8_read_16 : decode cX8_read 16 = .ok (.iconst 0, 1) := dq daX8_read_0 (i := 8) rfl
theorem dX8_read_17 : decode cX8_read 17 = .ok (.putfield 229, 3) := dq daX8_read_0 (i := 9) rfl
theorem dX8_read_20 : decode cX8_read 20 = .ok (.aload_n 0, 1) := dq daX8_read_0 (i := 10) rfl
theorem dX8_read_21 : decode cX8_read 21 = .ok (.getfield 24, 3) := dq daX8_read_0 (i := 11) rfl
theorem dX8_read_24 : decode cX8_read 24 = .ok (.aload_n 0, 1) := dq daX8_read_0 (i := 12) rfl
theorem dX8_read_25 : decode cX8_read 25 = .ok (.getfield 12, 3) := dq daX8_read_0 (i := 13) rfl
theorem dX8_read_28 : decode cX8_read 28 = .ok (.invokevirtual 65, 3) := dq daX8_read_0 (i := 14) rfl
theorem dX8_read_31 : decode cX8_read 31 = .ok (.iload_n 1, 1) := dq daX8_read_0 (i := 15) rfl
theorem dX8_read_32 : decode cX8_read 32 = .ok (.ireturn, 1) := dq daX8_read_0 (i := 16) rfl
theorem daX8_why_0 : dchk cX8_why [(0, .iload_n 1, 1), (1, .ifCond .lt 17, 3), (4, .iload_n 1, 1), (5, .iconst 2, 1), (6, .if_icmp .gt 12, 3), (9, .iload_n 2, 1), (10, .ifCond .lt 8, 3), (13, .iload_n 2, 1), (14, .iconst 1, 1), (15, .if_icmp .le 5, 3), (18, .iconst (-1), 1), (19, .ireturn, 1), (20, .aload_n 0, 1), (21, .getfield 38, 3), (24, .getfield 238, 3), (27, .ifCond .eq 15, 3), (30, .aload_n 0, 1), (31, .getfield 38, 3), (34, .iload_n 1, 1), (35, .iload_n 2, 1), (36, .invokevirtual 242, 3), (39, .goto 5, 3), (42, .bipush (-2), 2), (44, .ireturn, 1)] = true := by decide +kernel
theorem dX8_why_0 : decode cX8_why 0 = .ok (.iload_n 1, 1) := dq daX8_why_0 (i := 0) rfl
theorem dX8_why_1 : decode cX8_why 1 = .ok (.ifCond .lt 17, 3) := dq daX8_why_0 (i := 1) rfl
theorem dX8_why_4 : decode cX8_why 4 = .ok (.iload_n 1, 1) := dq daX8_why_0 (i := 2) rfl
theorem dX8_why_5 : decode cX8_why 5 = .ok (.iconst 2, 1) := dq daX8_why_0 (i := 3) rfl
theorem dX8_why_6 : decode cX8_why 6 = .ok (.if_icmp .gt 12, 3) := dq daX8_why_0 (i := 4) rfl
theorem dX8_why_9 : decode cX8_why 9 = .ok (.iload_n 2, 1) := dq daX8_why_0 (i := 5) rfl
theorem dX8_why_10 : decode cX8_why 10 = .ok (.ifCond .lt 8, 3) := dq daX8_why_0 (i := 6) rfl
theorem dX8_why_13 : decode cX8_why 13 = .ok (.iload_n 2, 1) := dq daX8_why_0 (i := 7) rfl
theorem dX8_why_14 : decode cX8_why 14 = .ok (.iconst 1, 1) := dq daX8_why_0 (i := 8) rfl
theorem dX8_why_15 : decode cX8_why 15 = .ok (.if_icmp .le 5, 3) := dq daX8_why_0 (i := 9) rfl
theorem dX8_why_18 : decode cX8_why 18 = .ok (.iconst (-1), 1) := dq daX8_why_0 (i := 10) rfl
theorem dX8_why_19 : decode cX8_why 19 = .ok (.ireturn, 1) := dq daX8_why_0 (i := 11) rfl
theorem dX8_why_20 : decode cX8_why 20 = .ok (.aload_n 0, 1) := dq daX8_why_0 (i := 12) rfl
theorem dX8_why_21 : decode cX8_why 21 = .ok (.getfield 38, 3) := dq daX8_why_0 (i := 13) rfl
theorem dX8_why_24 : decode cX8_why 24 = .ok (.getfield 238, 3) := dq daX8_why_0 (i := 14) rfl
theorem dX8_why_27 : decode cX8_why 27 = .ok (.ifCond .eq 15, 3) := dq daX8_why_0 (i := 15) rfl
theorem dX8_why_30 : decode cX8_why 30 = .ok (.aload_n 0, 1) := dq daX8_why_0 (i := 16) rfl
theorem dX8_why_31 : decode cX8_why 31 = .ok (.getfield 38, 3) := dq daX8_why_0 (i := 17) rfl
theorem dX8_why_34 : decode cX8_why 34 = .ok (.iload_n 1, 1) := dq daX8_why_0 (i := 18) rfl
theorem dX8_why_35 : decode cX8_why 35 = .ok (.iload_n 2, 1) := dq daX8_why_0 (i := 19) rfl
theorem dX8_why_36 : decode cX8_why 36 = .ok (.invokevirtual 242, 3) := dq daX8_why_0 (i := 20) rfl
theorem dX8_why_39 : decode cX8_why 39 = .ok (.goto 5, 3) := dq daX8_why_0 (i := 21) rfl
theorem dX8_why_42 : decode cX8_why 42 = .ok (.bipush (-2), 2) := dq daX8_why_0 (i := 22) rfl
theorem dX8_why_44 : decode cX8_why 44 = .ok (.ireturn, 1) := dq daX8_why_0 (i := 23) rfl
theorem daX8_spell_0 : dchk cX8_spell [(0, .iload_n 1, 1), (1, .iconst (-1), 1), (2, .if_icmp .ge 5, 3), (5, .iconst (-1), 1), (6, .ireturn, 1), (7, .aload_n 0, 1), (8, .getfield 50, 3), (11, .aload_n 0, 1), (12, .getfield 12, 3), (15, .invokevirtual 245, 3), (18, .iload_n 1, 1), (19, .iconst (-1), 1), (20, .if_icmp .ne 13, 3), (23, .aload_n 0, 1), (24, .getfield 50, 3), (27, .getfield 248, 3), (30, .goto 11, 3), (33, .aload_n 0, 1), (34, .getfield 50, 3), (37, .iload_n 1, 1), (38, .invokevirtual 249, 3), (41, .ireturn, 1)] = true := by decide +kernel
theorem dX8_spell_0 : decode cX8_spell 0 = .ok (.iload_n 1, 1) := dq daX8_spell_0 (i := 0) rfl
theorem dX8_spell_1 : decode cX8_spell 1 = .ok (.iconst (-1), 1) := dq daX8_spell_0 (i := 1) rfl
theorem dX8_spell_2 : decode cX8_spell 2 = .ok (.if_icmp .ge 5, 3) := dq daX8_spell_0 (i := 2) rfl
theorem dX8_spell_5 : decode cX8_spell 5 = .ok (.iconst (-1), 1) := dq daX8_spell_0 (i := 3) rfl
theorem dX8_spell_6 : decode cX8_spell 6 = .ok (.ireturn, 1) := dq daX8_spell_0 (i := 4) rfl
theorem dX8_spell_7 : decode cX8_spell 7 = .ok (.aload_n 0, 1) := dq daX8_spell_0 (i := 5) rfl
theorem dX8_spell_8 : decode cX8_spell 8 = .ok (.getfield 50, 3) := dq daX8_spell_0 (i := 6) rfl
theorem dX8_spell_11 : decode cX8_spell 11 = .ok (.aload_n 0, 1) := dq daX8_spell_0 (i := 7) rfl
theorem dX8_spell_12 : decode cX8_spell 12 = .ok (.getfield 12, 3) := dq daX8_spell_0 (i := 8) rfl
theorem dX8_spell_15 : decode cX8_spell 15 = .ok (.invokevirtual 245, 3) := dq daX8_spell_0 (i := 9) rfl
theorem dX8_spell_18 : decode cX8_spell 18 = .ok (.iload_n 1, 1) := dq daX8_spell_0 (i := 10) rfl
theorem dX8_spell_19 : decode cX8_spell 19 = .ok (.iconst (-1), 1) := dq daX8_spell_0 (i := 11) rfl
theorem dX8_spell_20 : decode cX8_spell 20 = .ok (.if_icmp .ne 13, 3) := dq daX8_spell_0 (i := 12) rfl
theorem dX8_spell_23 : decode cX8_spell 23 = .ok (.aload_n 0, 1) := dq daX8_spell_0 (i := 13) rfl
theorem dX8_spell_24 : decode cX8_spell 24 = .ok (.getfield 50, 3) := dq daX8_spell_0 (i := 14) rfl
theorem dX8_spell_27 : decode cX8_spell 27 = .ok (.getfield 248, 3) := dq daX8_spell_0 (i := 15) rfl
theorem dX8_spell_30 : decode cX8_spell 30 = .ok (.goto 11, 3) := dq daX8_spell_0 (i := 16) rfl
theorem dX8_spell_33 : decode cX8_spell 33 = .ok (.aload_n 0, 1) := dq daX8_spell_0 (i := 17) rfl
theorem dX8_spell_34 : decode cX8_spell 34 = .ok (.getfield 50, 3) := dq daX8_spell_0 (i := 18) rfl
theorem dX8_spell_37 : decode cX8_spell 37 = .ok (.iload_n 1, 1) := dq daX8_spell_0 (i := 19) rfl
theorem dX8_spell_38 : decode cX8_spell 38 = .ok (.invokevirtual 249, 3) := dq daX8_spell_0 (i := 20) rfl
theorem dX8_spell_41 : decode cX8_spell 41 = .ok (.ireturn, 1) := dq daX8_spell_0 (i := 21) rfl
theorem daX8_hold_0 : dchk cX8_hold [(0, .aload_n 0, 1), (1, .iload_n 1, 1), (2, .invokevirtual 252, 3), (5, .astore_n 3, 1), (6, .aload_n 3, 1), (7, .ifnull 12, 3), (10, .iload_n 2, 1), (11, .ifCond .lt 8, 3), (14, .iload_n 2, 1), (15, .iconst 1, 1), (16, .if_icmp .le 5, 3), (19, .iconst (-1), 1), (20, .ireturn, 1), (21, .iload_n 2, 1), (22, .ifCond .ne 20, 3), (25, .aload_n 3, 1), (26, .aload_n 0, 1), (27, .iconst 0, 1), (28, .invokevirtual 256, 3), (31, .invokevirtual 259, 3), (34, .aload_n 0, 1), (35, .getfield 12, 3), (38, .getfield 73, 3), (41, .ireturn, 1), (42, .aload_n 3, 1), (43, .aload_n 0, 1), (44, .getfield 12, 3), (47, .getfield 156, 3), (50, .aload_n 0, 1), (51, .getfield 12, 3), (54, .getfield 153, 3), (57, .invokevirtual 263, 3), (60, .aload_n 0, 1), (61, .getfield 12, 3), (64, .getfield 156, 3), (67, .invokestatic 172, 3), (70, .ireturn, 1)] = true := by decide +kernel
theorem dX8_hold_0 : decode cX8_hold 0 = .ok (.aload_n 0, 1) := dq daX8_hold_0 (i := 0) rfl
theorem dX8_hold_1 : decode cX8_hold 1 = .ok (.iload_n 1, 1) := dq daX8_hold_0 (i := 1) rfl
theorem dX8_hold_2 : decode cX8_hold 2 = .ok (.invokevirtual 252, 3) := dq daX8_hold_0 (i := 2) rfl
theorem dX8_hold_5 : decode cX8_hold 5 = .ok (.astore_n 3, 1) := dq daX8_hold_0 (i := 3) rfl
theorem dX8_hold_6 : decode cX8_hold 6 = .ok (.aload_n 3, 1) := dq daX8_hold_0 (i := 4) rfl
theorem dX8_hold_7 : decode cX8_hold 7 = .ok (.ifnull 12, 3) := dq daX8_hold_0 (i := 5) rfl
theorem dX8_hold_10 : decode cX8_hold 10 = .ok (.iload_n 2, 1) := dq daX8_hold_0 (i := 6) rfl
theorem dX8_hold_11 : decode cX8_hold 11 = .ok (.ifCond .lt 8, 3) := dq daX8_hold_0 (i := 7) rfl
theorem dX8_hold_14 : decode cX8_hold 14 = .ok (.iload_n 2, 1) := dq daX8_hold_0 (i := 8) rfl
theorem dX8_hold_15 : decode cX8_hold 15 = .ok (.iconst 1, 1) := dq daX8_hold_0 (i := 9) rfl
theorem dX8_hold_16 : decode cX8_hold 16 = .ok (.if_icmp .le 5, 3) := dq daX8_hold_0 (i := 10) rfl
theorem dX8_hold_19 : decode cX8_hold 19 = .ok (.iconst (-1), 1) := dq daX8_hold_0 (i := 11) rfl
theorem dX8_hold_20 : decode cX8_hold 20 = .ok (.ireturn, 1) := dq daX8_hold_0 (i := 12) rfl
theorem dX8_hold_21 : decode cX8_hold 21 = .ok (.iload_n 2, 1) := dq daX8_hold_0 (i := 13) rfl
theorem dX8_hold_22 : decode cX8_hold 22 = .ok (.ifCond .ne 20, 3) := dq daX8_hold_0 (i := 14) rfl
theorem dX8_hold_25 : decode cX8_hold 25 = .ok (.aload_n 3, 1) := dq daX8_hold_0 (i := 15) rfl
theorem dX8_hold_26 : decode cX8_hold 26 = .ok (.aload_n 0, 1) := dq daX8_hold_0 (i := 16) rfl
theorem dX8_hold_27 : decode cX8_hold 27 = .ok (.iconst 0, 1) := dq daX8_hold_0 (i := 17) rfl
theorem dX8_hold_28 : decode cX8_hold 28 = .ok (.invokevirtual 256, 3) := dq daX8_hold_0 (i := 18) rfl
theorem dX8_hold_31 : decode cX8_hold 31 = .ok (.invokevirtual 259, 3) := dq daX8_hold_0 (i := 19) rfl
theorem dX8_hold_34 : decode cX8_hold 34 = .ok (.aload_n 0, 1) := dq daX8_hold_0 (i := 20) rfl
theorem dX8_hold_35 : decode cX8_hold 35 = .ok (.getfield 12, 3) := dq daX8_hold_0 (i := 21) rfl
theorem dX8_hold_38 : decode cX8_hold 38 = .ok (.getfield 73, 3) := dq daX8_hold_0 (i := 22) rfl
theorem dX8_hold_41 : decode cX8_hold 41 = .ok (.ireturn, 1) := dq daX8_hold_0 (i := 23) rfl
theorem dX8_hold_42 : decode cX8_hold 42 = .ok (.aload_n 3, 1) := dq daX8_hold_0 (i := 24) rfl
theorem dX8_hold_43 : decode cX8_hold 43 = .ok (.aload_n 0, 1) := dq daX8_hold_0 (i := 25) rfl
theorem dX8_hold_44 : decode cX8_hold 44 = .ok (.getfield 12, 3) := dq daX8_hold_0 (i := 26) rfl
theorem dX8_hold_47 : decode cX8_hold 47 = .ok (.getfield 156, 3) := dq daX8_hold_0 (i := 27) rfl
theorem dX8_hold_50 : decode cX8_hold 50 = .ok (.aload_n 0, 1) := dq daX8_hold_0 (i := 28) rfl
theorem dX8_hold_51 : decode cX8_hold 51 = .ok (.getfield 12, 3) := dq daX8_hold_0 (i := 29) rfl
theorem dX8_hold_54 : decode cX8_hold 54 = .ok (.getfield 153, 3) := dq daX8_hold_0 (i := 30) rfl
theorem dX8_hold_57 : decode cX8_hold 57 = .ok (.invokevirtual 263, 3) := dq daX8_hold_0 (i := 31) rfl
theorem dX8_hold_60 : decode cX8_hold 60 = .ok (.aload_n 0, 1) := dq daX8_hold_0 (i := 32) rfl
theorem dX8_hold_61 : decode cX8_hold 61 = .ok (.getfield 12, 3) := dq daX8_hold_0 (i := 33) rfl
theorem dX8_hold_64 : decode cX8_hold 64 = .ok (.getfield 156, 3) := dq daX8_hold_0 (i := 34) rfl
theorem dX8_hold_67 : decode cX8_hold 67 = .ok (.invokestatic 172, 3) := dq daX8_hold_0 (i := 35) rfl
theorem dX8_hold_70 : decode cX8_hold 70 = .ok (.ireturn, 1) := dq daX8_hold_0 (i := 36) rfl
theorem daX8_lose_0 : dchk cX8_lose [(0, .aload_n 0, 1), (1, .iload_n 1, 1), (2, .invokevirtual 252, 3), (5, .astore_n 2, 1), (6, .aload_n 2, 1), (7, .ifnonnull 5, 3), (10, .iconst (-1), 1), (11, .ireturn, 1), (12, .aload_n 2, 1), (13, .getfield 267, 3), (16, .istore_n 3, 1), (17, .aload_n 2, 1), (18, .iconst 0, 1), (19, .putfield 267, 3), (22, .iload_n 3, 1), (23, .ireturn, 1)] = true := by decide +kernel
theorem dX8_lose_0 : decode cX8_lose 0 = .ok (.aload_n 0, 1) := dq daX8_lose_0 (i := 0) rfl
theorem dX8_lose_1 : decode cX8_lose 1 = .ok (.iload_n 1, 1) := dq daX8_lose_0 (i := 1) rfl
theorem dX8_lose_2 : decode cX8_lose 2 = .ok (.invokevirtual 252, 3) := dq daX8_lose_0 (i := 2) rfl
theorem dX8_lose_5 : decode cX8_lose 5 = .ok (.astore_n 2, 1) := dq daX8_lose_0 (i := 3) rfl
theorem dX8_lose_6 : decode cX8_lose 6 = .ok (.aload_n 2, 1) := dq daX8_lose_0 (i := 4) rfl
theorem dX8_lose_7 : decode cX8_lose 7 = .ok (.ifnonnull 5, 3) := dq daX8_lose_0 (i := 5) rfl
theorem dX8_lose_10 : decode cX8_lose 10 = .ok (.iconst (-1), 1) := dq daX8_lose_0 (i := 6) rfl
theorem dX8_lose_11 : decode cX8_lose 11 = .ok (.ireturn, 1) := dq daX8_lose_0 (i := 7) rfl
theorem dX8_lose_12 : decode cX8_lose 12 = .ok (.aload_n 2, 1) := dq daX8_lose_0 (i := 8) rfl
theorem dX8_lose_13 : decode cX8_lose 13 = .ok (.getfield 267, 3) := dq daX8_lose_0 (i := 9) rfl
theorem dX8_lose_16 : decode cX8_lose 16 = .ok (.istore_n 3, 1) := dq daX8_lose_0 (i := 10) rfl
theorem dX8_lose_17 : decode cX8_lose 17 = .ok (.aload_n 2, 1) := dq daX8_lose_0 (i := 11) rfl
theorem dX8_lose_18 : decode cX8_lose 18 = .ok (.iconst 0, 1) := dq daX8_lose_0 (i := 12) rfl
theorem dX8_lose_19 : decode cX8_lose 19 = .ok (.putfield 267, 3) := dq daX8_lose_0 (i := 13) rfl
theorem dX8_lose_22 : decode cX8_lose 22 = .ok (.iload_n 3, 1) := dq daX8_lose_0 (i := 14) rfl
theorem dX8_lose_23 : decode cX8_lose 23 = .ok (.ireturn, 1) := dq daX8_lose_0 (i := 15) rfl
theorem daX8_taken_0 : dchk cX8_taken [(0, .aload_n 0, 1), (1, .iload_n 1, 1), (2, .invokevirtual 252, 3), (5, .astore_n 3, 1), (6, .aload_n 3, 1), (7, .ifnull 12, 3), (10, .iload_n 2, 1), (11, .ifCond .lt 8, 3), (14, .iload_n 2, 1), (15, .iconst 3, 1), (16, .if_icmp .le 5, 3), (19, .iconst (-1), 1), (20, .ireturn, 1), (21, .aload_n 3, 1), (22, .getfield 267, 3), (25, .ifCond .ne 6, 3), (28, .bipush (-11), 2), (30, .ireturn, 1), (31, .aload_n 3, 1), (32, .iload_n 2, 1), (33, .invokevirtual 270, 3), (36, .ifCond .eq 11, 3), (39, .aload_n 3, 1), (40, .iload_n 2, 1), (41, .invokevirtual 273, 3), (44, .goto 5, 3), (47, .bipush (-12), 2), (49, .ireturn, 1)] = true := by decide +kernel
theorem dX8_taken_0 : decode cX8_taken 0 = .ok (.aload_n 0, 1) := dq daX8_taken_0 (i := 0) rfl
theorem dX8_taken_1 : decode cX8_taken 1 = .ok (.iload_n 1, 1) := dq daX8_taken_0 (i := 1) rfl
theorem dX8_taken_2 : decode cX8_taken 2 = .ok (.invokevirtual 252, 3) := dq daX8_taken_0 (i := 2) rfl
theorem dX8_taken_5 : decode cX8_taken 5 = .ok (.astore_n 3, 1) := dq daX8_taken_0 (i := 3) rfl
theorem dX8_taken_6 : decode cX8_taken 6 = .ok (.aload_n 3, 1) := dq daX8_taken_0 (i := 4) rfl
theorem dX8_taken_7 : decode cX8_taken 7 = .ok (.ifnull 12, 3) := dq daX8_taken_0 (i := 5) rfl
theorem dX8_taken_10 : decode cX8_taken 10 = .ok (.iload_n 2, 1) := dq daX8_taken_0 (i := 6) rfl
theorem dX8_taken_11 : decode cX8_taken 11 = .ok (.ifCond .lt 8, 3) := dq daX8_taken_0 (i := 7) rfl
theorem dX8_taken_14 : decode cX8_taken 14 = .ok (.iload_n 2, 1) := dq daX8_taken_0 (i := 8) rfl
theorem dX8_taken_15 : decode cX8_taken 15 = .ok (.iconst 3, 1) := dq daX8_taken_0 (i := 9) rfl
theorem dX8_taken_16 : decode cX8_taken 16 = .ok (.if_icmp .le 5, 3) := dq daX8_taken_0 (i := 10) rfl
theorem dX8_taken_19 : decode cX8_taken 19 = .ok (.iconst (-1), 1) := dq daX8_taken_0 (i := 11) rfl
theorem dX8_taken_20 : decode cX8_taken 20 = .ok (.ireturn, 1) := dq daX8_taken_0 (i := 12) rfl
theorem dX8_taken_21 : decode cX8_taken 21 = .ok (.aload_n 3, 1) := dq daX8_taken_0 (i := 13) rfl
theorem dX8_taken_22 : decode cX8_taken 22 = .ok (.getfield 267, 3) := dq daX8_taken_0 (i := 14) rfl
theorem dX8_taken_25 : decode cX8_taken 25 = .ok (.ifCond .ne 6, 3) := dq daX8_taken_0 (i := 15) rfl
theorem dX8_taken_28 : decode cX8_taken 28 = .ok (.bipush (-11), 2) := dq daX8_taken_0 (i := 16) rfl
theorem dX8_taken_30 : decode cX8_taken 30 = .ok (.ireturn, 1) := dq daX8_taken_0 (i := 17) rfl
theorem dX8_taken_31 : decode cX8_taken 31 = .ok (.aload_n 3, 1) := dq daX8_taken_0 (i := 18) rfl
theorem dX8_taken_32 : decode cX8_taken 32 = .ok (.iload_n 2, 1) := dq daX8_taken_0 (i := 19) rfl
theorem dX8_taken_33 : decode cX8_taken 33 = .ok (.invokevirtual 270, 3) := dq daX8_taken_0 (i := 20) rfl
theorem dX8_taken_36 : decode cX8_taken 36 = .ok (.ifCond .eq 11, 3) := dq daX8_taken_0 (i := 21) rfl
theorem dX8_taken_39 : decode cX8_taken 39 = .ok (.aload_n 3, 1) := dq daX8_taken_0 (i := 22) rfl
theorem dX8_taken_40 : decode cX8_taken 40 = .ok (.iload_n 2, 1) := dq daX8_taken_0 (i := 23) rfl
theorem dX8_taken_41 : decode cX8_taken 41 = .ok (.invokevirtual 273, 3) := dq daX8_taken_0 (i := 24) rfl
theorem dX8_taken_44 : decode cX8_taken 44 = .ok (.goto 5, 3) := dq daX8_taken_0 (i := 25) rfl
theorem dX8_taken_47 : decode cX8_taken 47 = .ok (.bipush (-12), 2) := dq daX8_taken_0 (i := 26) rfl
theorem dX8_taken_49 : decode cX8_taken 49 = .ok (.ireturn, 1) := dq daX8_taken_0 (i := 27) rfl
theorem daX8_common_0 : dchk cX8_common [(0, .aload_n 0, 1), (1, .iload_n 1, 1), (2, .invokevirtual 252, 3), (5, .astore_n 2, 1), (6, .aload_n 2, 1), (7, .iconst 2, 1), (8, .invokestatic 276, 3), (11, .istore_n 3, 1), (12, .aload_n 2, 1), (13, .ifnull 7, 3), (16, .iload_n 3, 1), (17, .ifCond .eq 5, 3), (20, .iload_n 3, 1), (21, .ireturn, 1), (22, .aload_n 2, 1), (23, .getfield 280, 3), (26, .aload_n 0, 1), (27, .getfield 12, 3), (30, .getfield 153, 3), (33, .if_icmp .eq 6, 3), (36, .bipush (-5), 2), (38, .ireturn, 1), (39, .aload_n 2, 1), (40, .getfield 281, 3), (43, .aload_n 0, 1), (44, .getfield 12, 3), (47, .getfield 156, 3), (50, .land, 1), (51, .invokestatic 172, 3), (54, .ireturn, 1)] = true := by decide +kernel
theorem dX8_common_0 : decode cX8_common 0 = .ok (.aload_n 0, 1) := dq daX8_common_0 (i := 0) rfl
theorem dX8_common_1 : decode cX8_common 1 = .ok (.iload_n 1, 1) := dq daX8_common_0 (i := 1) rfl
theorem dX8_common_2 : decode cX8_common 2 = .ok (.invokevirtual 252, 3) := dq daX8_common_0 (i := 2) rfl
theorem dX8_common_5 : decode cX8_common 5 = .ok (.astore_n 2, 1) := dq daX8_common_0 (i := 3) rfl
theorem dX8_common_6 : decode cX8_common 6 = .ok (.aload_n 2, 1) := dq daX8_common_0 (i := 4) rfl
theorem dX8_common_7 : decode cX8_common 7 = .ok (.iconst 2, 1) := dq daX8_common_0 (i := 5) rfl
theorem dX8_common_8 : decode cX8_common 8 = .ok (.invokestatic 276, 3) := dq daX8_common_0 (i := 6) rfl
theorem dX8_common_11 : decode cX8_common 11 = .ok (.istore_n 3, 1) := dq daX8_common_0 (i := 7) rfl
theorem dX8_common_12 : decode cX8_common 12 = .ok (.aload_n 2, 1) := dq daX8_common_0 (i := 8) rfl
theorem dX8_common_13 : decode cX8_common 13 = .ok (.ifnull 7, 3) := dq daX8_common_0 (i := 9) rfl
theorem dX8_common_16 : decode cX8_common 16 = .ok (.iload_n 3, 1) := dq daX8_common_0 (i := 10) rfl
theorem dX8_common_17 : decode cX8_common 17 = .ok (.ifCond .eq 5, 3) := dq daX8_common_0 (i := 11) rfl
theorem dX8_common_20 : decode cX8_common 20 = .ok (.iload_n 3, 1) := dq daX8_common_0 (i := 12) rfl
theorem dX8_common_21 : decode cX8_common 21 = .ok (.ireturn, 1) := dq daX8_common_0 (i := 13) rfl
theorem dX8_common_22 : decode cX8_common 22 = .ok (.aload_n 2, 1) := dq daX8_common_0 (i := 14) rfl
theorem dX8_common_23 : decode cX8_common 23 = .ok (.getfield 280, 3) := dq daX8_common_0 (i := 15) rfl
theorem dX8_common_26 : decode cX8_common 26 = .ok (.aload_n 0, 1) := dq daX8_common_0 (i := 16) rfl
theorem dX8_common_27 : decode cX8_common 27 = .ok (.getfield 12, 3) := dq daX8_common_0 (i := 17) rfl
theorem dX8_common_30 : decode cX8_common 30 = .ok (.getfield 153, 3) := dq daX8_common_0 (i := 18) rfl
theorem dX8_common_33 : decode cX8_common 33 = .ok (.if_icmp .eq 6, 3) := dq daX8_common_0 (i := 19) rfl
theorem dX8_common_36 : decode cX8_common 36 = .ok (.bipush (-5), 2) := dq daX8_common_0 (i := 20) rfl
theorem dX8_common_38 : decode cX8_common 38 = .ok (.ireturn, 1) := dq daX8_common_0 (i := 21) rfl
theorem dX8_common_39 : decode cX8_common 39 = .ok (.aload_n 2, 1) := dq daX8_common_0 (i := 22) rfl
theorem dX8_common_40 : decode cX8_common 40 = .ok (.getfield 281, 3) := dq daX8_common_0 (i := 23) rfl
theorem dX8_common_43 : decode cX8_common 43 = .ok (.aload_n 0, 1) := dq daX8_common_0 (i := 24) rfl
theorem dX8_common_44 : decode cX8_common 44 = .ok (.getfield 12, 3) := dq daX8_common_0 (i := 25) rfl
theorem dX8_common_47 : decode cX8_common 47 = .ok (.getfield 156, 3) := dq daX8_common_0 (i := 26) rfl
theorem dX8_common_50 : decode cX8_common 50 = .ok (.land, 1) := dq daX8_common_0 (i := 27) rfl
theorem dX8_common_51 : decode cX8_common 51 = .ok (.invokestatic 172, 3) := dq daX8_common_0 (i := 28) rfl
theorem dX8_common_54 : decode cX8_common 54 = .ok (.ireturn, 1) := dq daX8_common_0 (i := 29) rfl
theorem daX8_row_0 : dchk cX8_row [(0, .aload_n 0, 1), (1, .iload_n 1, 1), (2, .invokevirtual 252, 3), (5, .astore_n 3, 1), (6, .aload_n 3, 1), (7, .ifnull 9, 3), (10, .iload_n 2, 1), (11, .bipush 20, 2), (13, .if_icmp .le 5, 3), (16, .iconst (-1), 1), (17, .ireturn, 1), (18, .iload_n 2, 1), (19, .ifCond .ge 6, 3), (22, .bipush (-14), 2), (24, .ireturn, 1), (25, .aload_n 3, 1), (26, .iload_n 2, 1), (27, .invokevirtual 282, 3), (30, .iload_n 2, 1), (31, .ireturn, 1)] = true := by decide +kernel
theorem dX8_row_0 : decode cX8_row 0 = .ok (.aload_n 0, 1) := dq daX8_row_0 (i := 0) rfl
theorem dX8_row_1 : decode cX8_row 1 = .ok (.iload_n 1, 1) := dq daX8_row_0 (i := 1) rfl
theorem dX8_row_2 : decode cX8_row 2 = .ok (.invokevirtual 252, 3) := dq daX8_row_0 (i := 2) rfl
theorem dX8_row_5 : decode cX8_row 5 = .ok (.astore_n 3, 1) := dq daX8_row_0 (i := 3) rfl
theorem dX8_row_6 : decode cX8_row 6 = .ok (.aload_n 3, 1) := dq daX8_row_0 (i := 4) rfl
theorem dX8_row_7 : decode cX8_row 7 = .ok (.ifnull 9, 3) := dq daX8_row_0 (i := 5) rfl
theorem dX8_row_10 : decode cX8_row 10 = .ok (.iload_n 2, 1) := dq daX8_row_0 (i := 6) rfl
theorem dX8_row_11 : decode cX8_row 11 = .ok (.bipush 20, 2) := dq daX8_row_0 (i := 7) rfl
theorem dX8_row_13 : decode cX8_row 13 = .ok (.if_icmp .le 5, 3) := dq daX8_row_0 (i := 8) rfl
theorem dX8_row_16 : decode cX8_row 16 = .ok (.iconst (-1), 1) := dq daX8_row_0 (i := 9) rfl
theorem dX8_row_17 : decode cX8_row 17 = .ok (.ireturn, 1) := dq daX8_row_0 (i := 10) rfl
theorem dX8_row_18 : decode cX8_row 18 = .ok (.iload_n 2, 1) := dq daX8_row_0 (i := 11) rfl
theorem dX8_row_19 : decode cX8_row 19 = .ok (.ifCond .ge 6, 3) := dq daX8_row_0 (i := 12) rfl
theorem dX8_row_22 : decode cX8_row 22 = .ok (.bipush (-14), 2) := dq daX8_row_0 (i := 13) rfl
theorem dX8_row_24 : decode cX8_row 24 = .ok (.ireturn, 1) := dq daX8_row_0 (i := 14) rfl
theorem dX8_row_25 : decode cX8_row 25 = .ok (.aload_n 3, 1) := dq daX8_row_0 (i := 15) rfl
theorem dX8_row_26 : decode cX8_row 26 = .ok (.iload_n 2, 1) := dq daX8_row_0 (i := 16) rfl
theorem dX8_row_27 : decode cX8_row 27 = .ok (.invokevirtual 282, 3) := dq daX8_row_0 (i := 17) rfl
theorem dX8_row_30 : decode cX8_row 30 = .ok (.iload_n 2, 1) := dq daX8_row_0 (i := 18) rfl
theorem dX8_row_31 : decode cX8_row 31 = .ok (.ireturn, 1) := dq daX8_row_0 (i := 19) rfl
theorem daX8_set_0 : dchk cX8_set [(0, .aload_n 0, 1), (1, .iload_n 1, 1), (2, .invokevirtual 252, 3), (5, .astore 4, 2), (7, .aload 4, 2), (9, .iconst 3, 1), (10, .invokestatic 276, 3), (13, .istore 5, 2), (15, .aload 4, 2), (17, .ifnull 8, 3), (20, .iload 5, 2), (22, .ifCond .eq 6, 3), (25, .iload 5, 2), (27, .ireturn, 1), (28, .aload 4, 2), (30, .iload_n 2, 1), (31, .invokevirtual 285, 3), (34, .ifCond .ne 6, 3), (37, .bipush (-13), 2), (39, .ireturn, 1), (40, .aload 4, 2), (42, .getfield 288, 3), (45, .iload_n 2, 1), (46, .iload_n 3, 1), (47, .iastore, 1), (48, .iconst 1, 1), (49, .ireturn, 1)] = true := by decide +kernel
theorem dX8_set_0 : decode cX8_set 0 = .ok (.aload_n 0, 1) := dq daX8_set_0 (i := 0) rfl
theorem dX8_set_1 : decode cX8_set 1 = .ok (.iload_n 1, 1) := dq daX8_set_0 (i := 1) rfl
theorem dX8_set_2 : decode cX8_set 2 = .ok (.invokevirtual 252, 3) := dq daX8_set_0 (i := 2) rfl
theorem dX8_set_5 : decode cX8_set 5 = .ok (.astore 4, 2) := dq daX8_set_0 (i := 3) rfl
theorem dX8_set_7 : decode cX8_set 7 = .ok (.aload 4, 2) := dq daX8_set_0 (i := 4) rfl
theorem dX8_set_9 : decode cX8_set 9 = .ok (.iconst 3, 1) := dq daX8_set_0 (i := 5) rfl
theorem dX8_set_10 : decode cX8_set 10 = .ok (.invokestatic 276, 3) := dq daX8_set_0 (i := 6) rfl
theorem dX8_set_13 : decode cX8_set 13 = .ok (.istore 5, 2) := dq daX8_set_0 (i := 7) rfl
theorem dX8_set_15 : decode cX8_set 15 = .ok (.aload 4, 2) := dq daX8_set_0 (i := 8) rfl
theorem dX8_set_17 : decode cX8_set 17 = .ok (.ifnull 8, 3) := dq daX8_set_0 (i := 9) rfl
theorem dX8_set_20 : decode cX8_set 20 = .ok (.iload 5, 2) := dq daX8_set_0 (i := 10) rfl
theorem dX8_set_22 : decode cX8_set 22 = .ok (.ifCond .eq 6, 3) := dq daX8_set_0 (i := 11) rfl
theorem dX8_set_25 : decode cX8_set 25 = .ok (.iload 5, 2) := dq daX8_set_0 (i := 12) rfl
theorem dX8_set_27 : decode cX8_set 27 = .ok (.ireturn, 1) := dq daX8_set_0 (i := 13) rfl
theorem dX8_set_28 : decode cX8_set 28 = .ok (.aload 4, 2) := dq daX8_set_0 (i := 14) rfl
theorem dX8_set_30 : decode cX8_set 30 = .ok (.iload_n 2, 1) := dq daX8_set_0 (i := 15) rfl
theorem dX8_set_31 : decode cX8_set 31 = .ok (.invokevirtual 285, 3) := dq daX8_set_0 (i := 16) rfl
theorem dX8_set_34 : decode cX8_set 34 = .ok (.ifCond .ne 6, 3) := dq daX8_set_0 (i := 17) rfl
theorem dX8_set_37 : decode cX8_set 37 = .ok (.bipush (-13), 2) := dq daX8_set_0 (i := 18) rfl
theorem dX8_set_39 : decode cX8_set 39 = .ok (.ireturn, 1) := dq daX8_set_0 (i := 19) rfl
theorem dX8_set_40 : decode cX8_set 40 = .ok (.aload 4, 2) := dq daX8_set_0 (i := 20) rfl
theorem dX8_set_42 : decode cX8_set 42 = .ok (.getfield 288, 3) := dq daX8_set_0 (i := 21) rfl
theorem dX8_set_45 : decode cX8_set 45 = .ok (.iload_n 2, 1) := dq daX8_set_0 (i := 22) rfl
theorem dX8_set_46 : decode cX8_set 46 = .ok (.iload_n 3, 1) := dq daX8_set_0 (i := 23) rfl
theorem dX8_set_47 : decode cX8_set 47 = .ok (.iastore, 1) := dq daX8_set_0 (i := 24) rfl
theorem dX8_set_48 : decode cX8_set 48 = .ok (.iconst 1, 1) := dq daX8_set_0 (i := 25) rfl
theorem dX8_set_49 : decode cX8_set 49 = .ok (.ireturn, 1) := dq daX8_set_0 (i := 26) rfl
theorem daX8_get_0 : dchk cX8_get [(0, .aload_n 0, 1), (1, .iload_n 1, 1), (2, .invokevirtual 252, 3), (5, .astore_n 3, 1), (6, .aload_n 3, 1), (7, .ifnull 19, 3), (10, .aload_n 3, 1), (11, .getfield 267, 3), (14, .iconst 3, 1), (15, .if_icmp .ne 11, 3), (18, .aload_n 3, 1), (19, .iload_n 2, 1), (20, .invokevirtual 285, 3), (23, .ifCond .ne 7, 3), (26, .ldc2_w 114, 3), (29, .lreturn, 1), (30, .aload_n 3, 1), (31, .getfield 288, 3), (34, .iload_n 2, 1), (35, .iaload, 1), (36, .i2l, 1), (37, .lreturn, 1)] = true := by decide +kernel
theorem dX8_get_0 : decode cX8_get 0 = .ok (.aload_n 0, 1) := dq daX8_get_0 (i := 0) rfl
theorem dX8_get_1 : decode cX8_get 1 = .ok (.iload_n 1, 1) := dq daX8_get_0 (i := 1) rfl
theorem dX8_get_2 : decode cX8_get 2 = .ok (.invokevirtual 252, 3) := dq daX8_get_0 (i := 2) rfl
theorem dX8_get_5 : decode cX8_get 5 = .ok (.astore_n 3, 1) := dq daX8_get_0 (i := 3) rfl
theorem dX8_get_6 : decode cX8_get 6 = .ok (.aload_n 3, 1) := dq daX8_get_0 (i := 4) rfl
theorem dX8_get_7 : decode cX8_get 7 = .ok (.ifnull 19, 3) := dq daX8_get_0 (i := 5) rfl
theorem dX8_get_10 : decode cX8_get 10 = .ok (.aload_n 3, 1) := dq daX8_get_0 (i := 6) rfl
theorem dX8_get_11 : decode cX8_get 11 = .ok (.getfield 267, 3) := dq daX8_get_0 (i := 7) rfl
theorem dX8_get_14 : decode cX8_get 14 = .ok (.iconst 3, 1) := dq daX8_get_0 (i := 8) rfl
theorem dX8_get_15 : decode cX8_get 15 = .ok (.if_icmp .ne 11, 3) := dq daX8_get_0 (i := 9) rfl
theorem dX8_get_18 : decode cX8_get 18 = .ok (.aload_n 3, 1) := dq daX8_get_0 (i := 10) rfl
theorem dX8_get_19 : decode cX8_get 19 = .ok (.iload_n 2, 1) := dq daX8_get_0 (i := 11) rfl
theorem dX8_get_20 : decode cX8_get 20 = .ok (.invokevirtual 285, 3) := dq daX8_get_0 (i := 12) rfl
theorem dX8_get_23 : decode cX8_get 23 = .ok (.ifCond .ne 7, 3) := dq daX8_get_0 (i := 13) rfl
theorem dX8_get_26 : decode cX8_get 26 = .ok (.ldc2_w 114, 3) := dq daX8_get_0 (i := 14) rfl
theorem dX8_get_29 : decode cX8_get 29 = .ok (.lreturn, 1) := dq daX8_get_0 (i := 15) rfl
theorem dX8_get_30 : decode cX8_get 30 = .ok (.aload_n 3, 1) := dq daX8_get_0 (i := 16) rfl
theorem dX8_get_31 : decode cX8_get 31 = .ok (.getfield 288, 3) := dq daX8_get_0 (i := 17) rfl
theorem dX8_get_34 : decode cX8_get 34 = .ok (.iload_n 2, 1) := dq daX8_get_0 (i := 18) rfl
theorem dX8_get_35 : decode cX8_get 35 = .ok (.iaload, 1) := dq daX8_get_0 (i := 19) rfl
theorem dX8_get_36 : decode cX8_get 36 = .ok (.i2l, 1) := dq daX8_get_0 (i := 20) rfl
theorem dX8_get_37 : decode cX8_get 37 = .ok (.lreturn, 1) := dq daX8_get_0 (i := 21) rfl
theorem daX8_judge_0 : dchk cX8_judge [(0, .aload_n 0, 1), (1, .iload_n 1, 1), (2, .invokevirtual 252, 3), (5, .astore_n 2, 1), (6, .aload_n 2, 1), (7, .iconst 3, 1), (8, .invokestatic 276, 3), (11, .istore_n 3, 1), (12, .aload_n 2, 1), (13, .ifnull 7, 3), (16, .iload_n 3, 1), (17, .ifCond .eq 5, 3), (20, .iload_n 3, 1), (21, .ireturn, 1), (22, .aload_n 2, 1), (23, .aload_n 0, 1), (24, .getfield 12, 3), (27, .getfield 156, 3), (30, .invokevirtual 292, 3), (33, .istore 4, 2), (35, .iload 4, 2), (37, .iconst (-1), 1), (38, .if_icmp .ne 8, 3), (41, .bipush (-2), 2), (43, .goto 5, 3), (46, .iload 4, 2), (48, .ireturn, 1)] = true := by decide +kernel
theorem dX8_judge_0 : decode cX8_judge 0 = .ok (.aload_n 0, 1) := dq daX8_judge_0 (i := 0) rfl
theorem dX8_judge_1 : decode cX8_judge 1 = .ok (.iload_n 1, 1) := dq daX8_judge_0 (i := 1) rfl
theorem dX8_judge_2 : decode cX8_judge 2 = .ok (.invokevirtual 252, 3) := dq daX8_judge_0 (i := 2) rfl
theorem dX8_judge_5 : decode cX8_judge 5 = .ok (.astore_n 2, 1) := dq daX8_judge_0 (i := 3) rfl
theorem dX8_judge_6 : decode cX8_judge 6 = .ok (.aload_n 2, 1) := dq daX8_judge_0 (i := 4) rfl
theorem dX8_judge_7 : decode cX8_judge 7 = .ok (.iconst 3, 1) := dq daX8_judge_0 (i := 5) rfl
theorem dX8_judge_8 : decode cX8_judge 8 = .ok (.invokestatic 276, 3) := dq daX8_judge_0 (i := 6) rfl
theorem dX8_judge_11 : decode cX8_judge 11 = .ok (.istore_n 3, 1) := dq daX8_judge_0 (i := 7) rfl
theorem dX8_judge_12 : decode cX8_judge 12 = .ok (.aload_n 2, 1) := dq daX8_judge_0 (i := 8) rfl
theorem dX8_judge_13 : decode cX8_judge 13 = .ok (.ifnull 7, 3) := dq daX8_judge_0 (i := 9) rfl
theorem dX8_judge_16 : decode cX8_judge 16 = .ok (.iload_n 3, 1) := dq daX8_judge_0 (i := 10) rfl
theorem dX8_judge_17 : decode cX8_judge 17 = .ok (.ifCond .eq 5, 3) := dq daX8_judge_0 (i := 11) rfl
theorem dX8_judge_20 : decode cX8_judge 20 = .ok (.iload_n 3, 1) := dq daX8_judge_0 (i := 12) rfl
theorem dX8_judge_21 : decode cX8_judge 21 = .ok (.ireturn, 1) := dq daX8_judge_0 (i := 13) rfl
theorem dX8_judge_22 : decode cX8_judge 22 = .ok (.aload_n 2, 1) := dq daX8_judge_0 (i := 14) rfl
theorem dX8_judge_23 : decode cX8_judge 23 = .ok (.aload_n 0, 1) := dq daX8_judge_0 (i := 15) rfl
theorem dX8_judge_24 : decode cX8_judge 24 = .ok (.getfield 12, 3) := dq daX8_judge_0 (i := 16) rfl
theorem dX8_judge_27 : decode cX8_judge 27 = .ok (.getfield 156, 3) := dq daX8_judge_0 (i := 17) rfl
theorem dX8_judge_30 : decode cX8_judge 30 = .ok (.invokevirtual 292, 3) := dq daX8_judge_0 (i := 18) rfl
theorem dX8_judge_33 : decode cX8_judge 33 = .ok (.istore 4, 2) := dq daX8_judge_0 (i := 19) rfl
theorem dX8_judge_35 : decode cX8_judge 35 = .ok (.iload 4, 2) := dq daX8_judge_0 (i := 20) rfl
theorem dX8_judge_37 : decode cX8_judge 37 = .ok (.iconst (-1), 1) := dq daX8_judge_0 (i := 21) rfl
theorem dX8_judge_38 : decode cX8_judge 38 = .ok (.if_icmp .ne 8, 3) := dq daX8_judge_0 (i := 22) rfl
theorem dX8_judge_41 : decode cX8_judge 41 = .ok (.bipush (-2), 2) := dq daX8_judge_0 (i := 23) rfl
theorem dX8_judge_43 : decode cX8_judge 43 = .ok (.goto 5, 3) := dq daX8_judge_0 (i := 24) rfl
theorem dX8_judge_46 : decode cX8_judge 46 = .ok (.iload 4, 2) := dq daX8_judge_0 (i := 25) rfl
theorem dX8_judge_48 : decode cX8_judge 48 = .ok (.ireturn, 1) := dq daX8_judge_0 (i := 26) rfl
theorem daX8_image_0 : dchk cX8_image [(0, .aload_n 0, 1), (1, .getfield 18, 3), (4, .aload_n 0, 1), (5, .getfield 12, 3), (8, .invokevirtual 295, 3), (11, .aload_n 0, 1), (12, .iconst 1, 1), (13, .putfield 298, 3), (16, .aload_n 0, 1), (17, .getfield 12, 3), (20, .getfield 73, 3), (23, .ireturn, 1)] = true := by decide +kernel
theorem dX8_image_0 : decode cX8_image 0 = .ok (.aload_n 0, 1) := dq daX8_image_0 (i := 0) rfl
theorem dX8_image_1 : decode cX8_image 1 = .ok (.getfield 18, 3) := dq daX8_image_0 (i := 1) rfl
theorem dX8_image_4 : decode cX8_image 4 = .ok (.aload_n 0, 1) := dq daX8_image_0 (i := 2) rfl
theorem dX8_image_5 : decode cX8_image 5 = .ok (.getfield 12, 3) := dq daX8_image_0 (i := 3) rfl
theorem dX8_image_8 : decode cX8_image 8 = .ok (.invokevirtual 295, 3) := dq daX8_image_0 (i := 4) rfl
theorem dX8_image_11 : decode cX8_image 11 = .ok (.aload_n 0, 1) := dq daX8_image_0 (i := 5) rfl
theorem dX8_image_12 : decode cX8_image 12 = .ok (.iconst 1, 1) := dq daX8_image_0 (i := 6) rfl
theorem dX8_image_13 : decode cX8_image 13 = .ok (.putfield 298, 3) := dq daX8_image_0 (i := 7) rfl
theorem dX8_image_16 : decode cX8_image 16 = .ok (.aload_n 0, 1) := dq daX8_image_0 (i := 8) rfl
theorem dX8_image_17 : decode cX8_image 17 = .ok (.getfield 12, 3) := dq daX8_image_0 (i := 9) rfl
theorem dX8_image_20 : decode cX8_image 20 = .ok (.getfield 73, 3) := dq daX8_image_0 (i := 10) rfl
theorem dX8_image_23 : decode cX8_image 23 = .ok (.ireturn, 1) := dq daX8_image_0 (i := 11) rfl
theorem daX8_restore_0 : dchk cX8_restore [(0, .aload_n 0, 1), (1, .getfield 298, 3), (4, .ifCond .ne 6, 3), (7, .bipush (-5), 2), (9, .ireturn, 1), (10, .aload_n 0, 1), (11, .getfield 12, 3), (14, .aload_n 0, 1), (15, .getfield 18, 3), (18, .invokevirtual 295, 3), (21, .aload_n 0, 1), (22, .getfield 24, 3), (25, .aload_n 0, 1), (26, .getfield 12, 3), (29, .invokevirtual 301, 3), (32, .aload_n 0, 1), (33, .getfield 12, 3), (36, .getfield 73, 3), (39, .ireturn, 1)] = true := by decide +kernel
theorem dX8_restore_0 : decode cX8_restore 0 = .ok (.aload_n 0, 1) := dq daX8_restore_0 (i := 0) rfl
theorem dX8_restore_1 : decode cX8_restore 1 = .ok (.getfield 298, 3) := dq daX8_restore_0 (i := 1) rfl
theorem dX8_restore_4 : decode cX8_restore 4 = .ok (.ifCond .ne 6, 3) := dq daX8_restore_0 (i := 2) rfl
theorem dX8_restore_7 : decode cX8_restore 7 = .ok (.bipush (-5), 2) := dq daX8_restore_0 (i := 3) rfl
theorem dX8_restore_9 : decode cX8_restore 9 = .ok (.ireturn, 1) := dq daX8_restore_0 (i := 4) rfl
theorem dX8_restore_10 : decode cX8_restore 10 = .ok (.aload_n 0, 1) := dq daX8_restore_0 (i := 5) rfl
theorem dX8_restore_11 : decode cX8_restore 11 = .ok (.getfield 12, 3) := dq daX8_restore_0 (i := 6) rfl
theorem dX8_restore_14 : decode cX8_restore 14 = .ok (.aload_n 0, 1) := dq daX8_restore_0 (i := 7) rfl
theorem dX8_restore_15 : decode cX8_restore 15 = .ok (.getfield 18, 3) := dq daX8_restore_0 (i := 8) rfl
theorem dX8_restore_18 : decode cX8_restore 18 = .ok (.invokevirtual 295, 3) := dq daX8_restore_0 (i := 9) rfl
theorem dX8_restore_21 : decode cX8_restore 21 = .ok (.aload_n 0, 1) := dq daX8_restore_0 (i := 10) rfl
theorem dX8_restore_22 : decode cX8_restore 22 = .ok (.getfield 24, 3) := dq daX8_restore_0 (i := 11) rfl
theorem dX8_restore_25 : decode cX8_restore 25 = .ok (.aload_n 0, 1) := dq daX8_restore_0 (i := 12) rfl
theorem dX8_restore_26 : decode cX8_restore 26 = .ok (.getfield 12, 3) := dq daX8_restore_0 (i := 13) rfl
theorem dX8_restore_29 : decode cX8_restore 29 = .ok (.invokevirtual 301, 3) := dq daX8_restore_0 (i := 14) rfl
theorem dX8_restore_32 : decode cX8_restore 32 = .ok (.aload_n 0, 1) := dq daX8_restore_0 (i := 15) rfl
theorem dX8_restore_33 : decode cX8_restore 33 = .ok (.getfield 12, 3) := dq daX8_restore_0 (i := 16) rfl
theorem dX8_restore_36 : decode cX8_restore 36 = .ok (.getfield 73, 3) := dq daX8_restore_0 (i := 17) rfl
theorem dX8_restore_39 : decode cX8_restore 39 = .ok (.ireturn, 1) := dq daX8_restore_0 (i := 18) rfl
theorem daX8_count_0 : dchk cX8_count [(0, .iload_n 1, 1), (1, .tableswitch 102 0 6 #[43, 51, 59, 67, 78, 86, 94], 43), (44, .aload_n 0, 1), (45, .getfield 12, 3), (48, .getfield 61, 3), (51, .ireturn, 1), (52, .aload_n 0, 1), (53, .getfield 12, 3), (56, .getfield 73, 3), (59, .ireturn, 1), (60, .aload_n 0, 1), (61, .getfield 12, 3), (64, .getfield 153, 3), (67, .ireturn, 1), (68, .aload_n 0, 1), (69, .getfield 12, 3), (72, .getfield 156, 3), (75, .invokestatic 172, 3), (78, .ireturn, 1), (79, .aload_n 0, 1), (80, .getfield 24, 3), (83, .invokevirtual 216, 3), (86, .ireturn, 1), (87, .aload_n 0, 1), (88, .getfield 24, 3), (91, .invokevirtual 223, 3), (94, .ireturn, 1), (95, .aload_n 0, 1), (96, .getfield 46, 3), (99, .getfield 229, 3), (102, .ireturn, 1), (103, .iconst (-1), 1), (104, .ireturn, 1)] = true := by decide +kernel
theorem dX8_count_0 : decode cX8_count 0 = .ok (.iload_n 1, 1) := dq daX8_count_0 (i := 0) rfl
theorem dX8_count_1 : decode cX8_count 1 = .ok (.tableswitch 102 0 6 #[43, 51, 59, 67, 78, 86, 94], 43) := dq daX8_count_0 (i := 1) rfl
theorem dX8_count_44 : decode cX8_count 44 = .ok (.aload_n 0, 1) := dq daX8_count_0 (i := 2) rfl
theorem dX8_count_45 : decode cX8_count 45 = .ok (.getfield 12, 3) := dq daX8_count_0 (i := 3) rfl
theorem dX8_count_48 : decode cX8_count 48 = .ok (.getfield 61, 3) := dq daX8_count_0 (i := 4) rfl
theorem dX8_count_51 : decode cX8_count 51 = .ok (.ireturn, 1) := dq daX8_count_0 (i := 5) rfl
theorem dX8_count_52 : decode cX8_count 52 = .ok (.aload_n 0, 1) := dq daX8_count_0 (i := 6) rfl
theorem dX8_count_53 : decode cX8_count 53 = .ok (.getfield 12, 3) := dq daX8_count_0 (i := 7) rfl
theorem dX8_count_56 : decode cX8_count 56 = .ok (.getfield 73, 3) := dq daX8_count_0 (i := 8) rfl
theorem dX8_count_59 : decode cX8_count 59 = .ok (.ireturn, 1) := dq daX8_count_0 (i := 9) rfl
theorem dX8_count_60 : decode cX8_count 60 = .ok (.aload_n 0, 1) := dq daX8_count_0 (i := 10) rfl
theorem dX8_count_61 : decode cX8_count 61 = .ok (.getfield 12, 3) := dq daX8_count_0 (i := 11) rfl
theorem dX8_count_64 : decode cX8_count 64 = .ok (.getfield 153, 3) := dq daX8_count_0 (i := 12) rfl
theorem dX8_count_67 : decode cX8_count 67 = .ok (.ireturn, 1) := dq daX8_count_0 (i := 13) rfl
theorem dX8_count_68 : decode cX8_count 68 = .ok (.aload_n 0, 1) := dq daX8_count_0 (i := 14) rfl
theorem dX8_count_69 : decode cX8_count 69 = .ok (.getfield 12, 3) := dq daX8_count_0 (i := 15) rfl
theorem dX8_count_72 : decode cX8_count 72 = .ok (.getfield 156, 3) := dq daX8_count_0 (i := 16) rfl
theorem dX8_count_75 : decode cX8_count 75 = .ok (.invokestatic 172, 3) := dq daX8_count_0 (i := 17) rfl
theorem dX8_count_78 : decode cX8_count 78 = .ok (.ireturn, 1) := dq daX8_count_0 (i := 18) rfl
theorem dX8_count_79 : decode cX8_count 79 = .ok (.aload_n 0, 1) := dq daX8_count_0 (i := 19) rfl
theorem dX8_count_80 : decode cX8_count 80 = .ok (.getfield 24, 3) := dq daX8_count_0 (i := 20) rfl
theorem dX8_count_83 : decode cX8_count 83 = .ok (.invokevirtual 216, 3) := dq daX8_count_0 (i := 21) rfl
theorem dX8_count_86 : decode cX8_count 86 = .ok (.ireturn, 1) := dq daX8_count_0 (i := 22) rfl
theorem dX8_count_87 : decode cX8_count 87 = .ok (.aload_n 0, 1) := dq daX8_count_0 (i := 23) rfl
theorem dX8_count_88 : decode cX8_count 88 = .ok (.getfield 24, 3) := dq daX8_count_0 (i := 24) rfl
theorem dX8_count_91 : decode cX8_count 91 = .ok (.invokevirtual 223, 3) := dq daX8_count_0 (i := 25) rfl
theorem dX8_count_94 : decode cX8_count 94 = .ok (.ireturn, 1) := dq daX8_count_0 (i := 26) rfl
theorem dX8_count_95 : decode cX8_count 95 = .ok (.aload_n 0, 1) := dq daX8_count_0 (i := 27) rfl
theorem dX8_count_96 : decode cX8_count 96 = .ok (.getfield 46, 3) := dq daX8_count_0 (i := 28) rfl
theorem dX8_count_99 : decode cX8_count 99 = .ok (.getfield 229, 3) := dq daX8_count_0 (i := 29) rfl
theorem dX8_count_102 : decode cX8_count 102 = .ok (.ireturn, 1) := dq daX8_count_0 (i := 30) rfl
theorem dX8_count_103 : decode cX8_count 103 = .ok (.iconst (-1), 1) := dq daX8_count_0 (i := 31) rfl
theorem dX8_count_104 : decode cX8_count 104 = .ok (.ireturn, 1) := dq daX8_count_0 (i := 32) rfl
theorem daX8_isPower_0 : dchk cX8_isPower [(0, .iload_n 0, 1), (1, .ifCond .lt 13, 3), (4, .iload_n 0, 1), (5, .bipush 12, 2), (7, .if_icmp .gt 7, 3), (10, .iconst 1, 1), (11, .goto 4, 3), (14, .iconst 0, 1), (15, .ireturn, 1)] = true := by decide +kernel
theorem dX8_isPower_0 : decode cX8_isPower 0 = .ok (.iload_n 0, 1) := dq daX8_isPower_0 (i := 0) rfl
theorem dX8_isPower_1 : decode cX8_isPower 1 = .ok (.ifCond .lt 13, 3) := dq daX8_isPower_0 (i := 1) rfl
theorem dX8_isPower_4 : decode cX8_isPower 4 = .ok (.iload_n 0, 1) := dq daX8_isPower_0 (i := 2) rfl
theorem dX8_isPower_5 : decode cX8_isPower 5 = .ok (.bipush 12, 2) := dq daX8_isPower_0 (i := 3) rfl
theorem dX8_isPower_7 : decode cX8_isPower 7 = .ok (.if_icmp .gt 7, 3) := dq daX8_isPower_0 (i := 4) rfl
theorem dX8_isPower_10 : decode cX8_isPower 10 = .ok (.iconst 1, 1) := dq daX8_isPower_0 (i := 5) rfl
theorem dX8_isPower_11 : decode cX8_isPower 11 = .ok (.goto 4, 3) := dq daX8_isPower_0 (i := 6) rfl
theorem dX8_isPower_14 : decode cX8_isPower 14 = .ok (.iconst 0, 1) := dq daX8_isPower_0 (i := 7) rfl
theorem dX8_isPower_15 : decode cX8_isPower 15 = .ok (.ireturn, 1) := dq daX8_isPower_0 (i := 8) rfl
theorem daX8_isPart_0 : dchk cX8_isPart [(0, .iload_n 0, 1), (1, .ifCond .eq 8, 3), (4, .iload_n 0, 1), (5, .iconst 1, 1), (6, .if_icmp .ne 7, 3), (9, .iconst 1, 1), (10, .goto 4, 3), (13, .iconst 0, 1), (14, .ireturn, 1)] = true := by decide +kernel
theorem dX8_isPart_0 : decode cX8_isPart 0 = .ok (.iload_n 0, 1) := dq daX8_isPart_0 (i := 0) rfl
theorem dX8_isPart_1 : decode cX8_isPart 1 = .ok (.ifCond .eq 8, 3) := dq daX8_isPart_0 (i := 1) rfl
theorem dX8_isPart_4 : decode cX8_isPart 4 = .ok (.iload_n 0, 1) := dq daX8_isPart_0 (i := 2) rfl
theorem dX8_isPart_5 : decode cX8_isPart 5 = .ok (.iconst 1, 1) := dq daX8_isPart_0 (i := 3) rfl
theorem dX8_isPart_6 : decode cX8_isPart 6 = .ok (.if_icmp .ne 7, 3) := dq daX8_isPart_0 (i := 4) rfl
theorem dX8_isPart_9 : decode cX8_isPart 9 = .ok (.iconst 1, 1) := dq daX8_isPart_0 (i := 5) rfl
theorem dX8_isPart_10 : decode cX8_isPart 10 = .ok (.goto 4, 3) := dq daX8_isPart_0 (i := 6) rfl
theorem dX8_isPart_13 : decode cX8_isPart 13 = .ok (.iconst 0, 1) := dq daX8_isPart_0 (i := 7) rfl
theorem dX8_isPart_14 : decode cX8_isPart 14 = .ok (.ireturn, 1) := dq daX8_isPart_0 (i := 8) rfl
theorem daX8_isKappa_0 : dchk cX8_isKappa [(0, .iload_n 0, 1), (1, .iconst (-1), 1), (2, .if_icmp .lt 13, 3), (5, .iload_n 0, 1), (6, .bipush 9, 2), (8, .if_icmp .gt 7, 3), (11, .iconst 1, 1), (12, .goto 4, 3), (15, .iconst 0, 1), (16, .ireturn, 1)] = true := by decide +kernel
theorem dX8_isKappa_0 : decode cX8_isKappa 0 = .ok (.iload_n 0, 1) := dq daX8_isKappa_0 (i := 0) rfl
theorem dX8_isKappa_1 : decode cX8_isKappa 1 = .ok (.iconst (-1), 1) := dq daX8_isKappa_0 (i := 1) rfl
theorem dX8_isKappa_2 : decode cX8_isKappa 2 = .ok (.if_icmp .lt 13, 3) := dq daX8_isKappa_0 (i := 2) rfl
theorem dX8_isKappa_5 : decode cX8_isKappa 5 = .ok (.iload_n 0, 1) := dq daX8_isKappa_0 (i := 3) rfl
theorem dX8_isKappa_6 : decode cX8_isKappa 6 = .ok (.bipush 9, 2) := dq daX8_isKappa_0 (i := 4) rfl
theorem dX8_isKappa_8 : decode cX8_isKappa 8 = .ok (.if_icmp .gt 7, 3) := dq daX8_isKappa_0 (i := 5) rfl
theorem dX8_isKappa_11 : decode cX8_isKappa 11 = .ok (.iconst 1, 1) := dq daX8_isKappa_0 (i := 6) rfl
theorem dX8_isKappa_12 : decode cX8_isKappa 12 = .ok (.goto 4, 3) := dq daX8_isKappa_0 (i := 7) rfl
theorem dX8_isKappa_15 : decode cX8_isKappa 15 = .ok (.iconst 0, 1) := dq daX8_isKappa_0 (i := 8) rfl
theorem dX8_isKappa_16 : decode cX8_isKappa 16 = .ok (.ireturn, 1) := dq daX8_isKappa_0 (i := 9) rfl
theorem daX8_isSplitCount_0 : dchk cX8_isSplitCount [(0, .iload_n 0, 1), (1, .ifCond .lt 13, 3), (4, .iload_n 0, 1), (5, .bipush 9, 2), (7, .if_icmp .gt 7, 3), (10, .iconst 1, 1), (11, .goto 4, 3), (14, .iconst 0, 1), (15, .ireturn, 1)] = true := by decide +kernel
theorem dX8_isSplitCount_0 : decode cX8_isSplitCount 0 = .ok (.iload_n 0, 1) := dq daX8_isSplitCount_0 (i := 0) rfl
theorem dX8_isSplitCount_1 : decode cX8_isSplitCount 1 = .ok (.ifCond .lt 13, 3) := dq daX8_isSplitCount_0 (i := 1) rfl
theorem dX8_isSplitCount_4 : decode cX8_isSplitCount 4 = .ok (.iload_n 0, 1) := dq daX8_isSplitCount_0 (i := 2) rfl
theorem dX8_isSplitCount_5 : decode cX8_isSplitCount 5 = .ok (.bipush 9, 2) := dq daX8_isSplitCount_0 (i := 3) rfl
theorem dX8_isSplitCount_7 : decode cX8_isSplitCount 7 = .ok (.if_icmp .gt 7, 3) := dq daX8_isSplitCount_0 (i := 4) rfl
theorem dX8_isSplitCount_10 : decode cX8_isSplitCount 10 = .ok (.iconst 1, 1) := dq daX8_isSplitCount_0 (i := 5) rfl
theorem dX8_isSplitCount_11 : decode cX8_isSplitCount 11 = .ok (.goto 4, 3) := dq daX8_isSplitCount_0 (i := 6) rfl
theorem dX8_isSplitCount_14 : decode cX8_isSplitCount 14 = .ok (.iconst 0, 1) := dq daX8_isSplitCount_0 (i := 7) rfl
theorem dX8_isSplitCount_15 : decode cX8_isSplitCount 15 = .ok (.ireturn, 1) := dq daX8_isSplitCount_0 (i := 8) rfl
theorem daX8_holderAt_0 : dchk cX8_holderAt [(0, .iload_n 1, 1), (1, .ifCond .lt 18, 3), (4, .iload_n 1, 1), (5, .bipush 6, 2), (7, .if_icmp .ge 12, 3), (10, .aload_n 0, 1), (11, .getfield 56, 3), (14, .iload_n 1, 1), (15, .aaload, 1), (16, .goto 4, 3), (19, .aconst_null, 1), (20, .areturn, 1)] = true := by decide +kernel
theorem dX8_holderAt_0 : decode cX8_holderAt 0 = .ok (.iload_n 1, 1) := dq daX8_holderAt_0 (i := 0) rfl
theorem dX8_holderAt_1 : decode cX8_holderAt 1 = .ok (.ifCond .lt 18, 3) := dq daX8_holderAt_0 (i := 1) rfl
theorem dX8_holderAt_4 : decode cX8_holderAt 4 = .ok (.iload_n 1, 1) := dq daX8_holderAt_0 (i := 2) rfl
theorem dX8_holderAt_5 : decode cX8_holderAt 5 = .ok (.bipush 6, 2) := dq daX8_holderAt_0 (i := 3) rfl
theorem dX8_holderAt_7 : decode cX8_holderAt 7 = .ok (.if_icmp .ge 12, 3) := dq daX8_holderAt_0 (i := 4) rfl
theorem dX8_holderAt_10 : decode cX8_holderAt 10 = .ok (.aload_n 0, 1) := dq daX8_holderAt_0 (i := 5) rfl
theorem dX8_holderAt_11 : decode cX8_holderAt 11 = .ok (.getfield 56, 3) := dq daX8_holderAt_0 (i := 6) rfl
theorem dX8_holderAt_14 : decode cX8_holderAt 14 = .ok (.iload_n 1, 1) := dq daX8_holderAt_0 (i := 7) rfl
theorem dX8_holderAt_15 : decode cX8_holderAt 15 = .ok (.aaload, 1) := dq daX8_holderAt_0 (i := 8) rfl
theorem dX8_holderAt_16 : decode cX8_holderAt 16 = .ok (.goto 4, 3) := dq daX8_holderAt_0 (i := 9) rfl
theorem dX8_holderAt_19 : decode cX8_holderAt 19 = .ok (.aconst_null, 1) := dq daX8_holderAt_0 (i := 10) rfl
theorem dX8_holderAt_20 : decode cX8_holderAt 20 = .ok (.areturn, 1) := dq daX8_holderAt_0 (i := 11) rfl
theorem daX8_refusalOf_0 : dchk cX8_refusalOf [(0, .aload_n 0, 1), (1, .ifnonnull 5, 3), (4, .iconst (-1), 1), (5, .ireturn, 1), (6, .aload_n 0, 1), (7, .getfield 267, 3), (10, .ifCond .ne 6, 3), (13, .bipush (-11), 2), (15, .ireturn, 1), (16, .aload_n 0, 1), (17, .getfield 267, 3), (20, .iload_n 1, 1), (21, .if_icmp .ne 7, 3), (24, .iconst 0, 1), (25, .goto 5, 3), (28, .bipush (-12), 2), (30, .ireturn, 1)] = true := by decide +kernel
theorem dX8_refusalOf_0 : decode cX8_refusalOf 0 = .ok (.aload_n 0, 1) := dq daX8_refusalOf_0 (i := 0) rfl
theorem dX8_refusalOf_1 : decode cX8_refusalOf 1 = .ok (.ifnonnull 5, 3) := dq daX8_refusalOf_0 (i := 1) rfl
theorem dX8_refusalOf_4 : decode cX8_refusalOf 4 = .ok (.iconst (-1), 1) := dq daX8_refusalOf_0 (i := 2) rfl
theorem dX8_refusalOf_5 : decode cX8_refusalOf 5 = .ok (.ireturn, 1) := dq daX8_refusalOf_0 (i := 3) rfl
theorem dX8_refusalOf_6 : decode cX8_refusalOf 6 = .ok (.aload_n 0, 1) := dq daX8_refusalOf_0 (i := 4) rfl
theorem dX8_refusalOf_7 : decode cX8_refusalOf 7 = .ok (.getfield 267, 3) := dq daX8_refusalOf_0 (i := 5) rfl
theorem dX8_refusalOf_10 : decode cX8_refusalOf 10 = .ok (.ifCond .ne 6, 3) := dq daX8_refusalOf_0 (i := 6) rfl
theorem dX8_refusalOf_13 : decode cX8_refusalOf 13 = .ok (.bipush (-11), 2) := dq daX8_refusalOf_0 (i := 7) rfl
theorem dX8_refusalOf_15 : decode cX8_refusalOf 15 = .ok (.ireturn, 1) := dq daX8_refusalOf_0 (i := 8) rfl
theorem dX8_refusalOf_16 : decode cX8_refusalOf 16 = .ok (.aload_n 0, 1) := dq daX8_refusalOf_0 (i := 9) rfl
theorem dX8_refusalOf_17 : decode cX8_refusalOf 17 = .ok (.getfield 267, 3) := dq daX8_refusalOf_0 (i := 10) rfl
theorem dX8_refusalOf_20 : decode cX8_refusalOf 20 = .ok (.iload_n 1, 1) := dq daX8_refusalOf_0 (i := 11) rfl
theorem dX8_refusalOf_21 : decode cX8_refusalOf 21 = .ok (.if_icmp .ne 7, 3) := dq daX8_refusalOf_0 (i := 12) rfl
theorem dX8_refusalOf_24 : decode cX8_refusalOf 24 = .ok (.iconst 0, 1) := dq daX8_refusalOf_0 (i := 13) rfl
theorem dX8_refusalOf_25 : decode cX8_refusalOf 25 = .ok (.goto 5, 3) := dq daX8_refusalOf_0 (i := 14) rfl
theorem dX8_refusalOf_28 : decode cX8_refusalOf 28 = .ok (.bipush (-12), 2) := dq daX8_refusalOf_0 (i := 15) rfl
theorem dX8_refusalOf_30 : decode cX8_refusalOf 30 = .ok (.ireturn, 1) := dq daX8_refusalOf_0 (i := 16) rfl
theorem daX8_keyWith_0 : dchk cX8_keyWith [(0, .aload_n 0, 1), (1, .getfield 31, 3), (4, .invokevirtual 304, 3), (7, .iconst 0, 1), (8, .istore 4, 2), (10, .iload 4, 2), (12, .aload_n 0, 1), (13, .getfield 12, 3), (16, .getfield 73, 3), (19, .if_icmp .ge 25, 3), (22, .aload_n 0, 1), (23, .getfield 31, 3), (26, .aload_n 0, 1), (27, .getfield 12, 3), (30, .iload 4, 2), (32, .invokevirtual 86, 3), (35, .invokevirtual 307, 3), (38, .iinc 4 1, 3), (41, .goto (-31), 3), (44, .iload_n 1, 1), (45, .iconst (-1), 1), (46, .if_icmp .eq 13, 3), (49, .aload_n 0, 1), (50, .getfield 31, 3), (53, .iload_n 1, 1), (54, .iconst 1, 1), (55, .iadd, 1), (56, .invokevirtual 307, 3), (59, .iload_n 2, 1), (60, .iconst (-1), 1), (61, .if_icmp .eq 13, 3), (64, .aload_n 0, 1), (65, .getfield 31, 3), (68, .iload_n 2, 1), (69, .iconst 1, 1), (70, .iadd, 1), (71, .invokevirtual 307, 3), (74, .iload_n 3, 1), (75, .iconst (-1), 1), (76, .if_icmp .eq 13, 3)] = true := by decide +kernel
theorem dX8_keyWith_0 : decode cX8_keyWith 0 = .ok (.aload_n 0, 1) := dq daX8_keyWith_0 (i := 0) rfl
theorem dX8_keyWith_1 : decode cX8_keyWith 1 = .ok (.getfield 31, 3) := dq daX8_keyWith_0 (i := 1) rfl
theorem dX8_keyWith_4 : decode cX8_keyWith 4 = .ok (.invokevirtual 304, 3) := dq daX8_keyWith_0 (i := 2) rfl
theorem dX8_keyWith_7 : decode cX8_keyWith 7 = .ok (.iconst 0, 1) := dq daX8_keyWith_0 (i := 3) rfl
theorem dX8_keyWith_8 : decode cX8_keyWith 8 = .ok (.istore 4, 2) := dq daX8_keyWith_0 (i := 4) rfl
theorem dX8_keyWith_10 : decode cX8_keyWith 10 = .ok (.iload 4, 2) := dq daX8_keyWith_0 (i := 5) rfl
theorem dX8_keyWith_12 : decode cX8_keyWith 12 = .ok (.aload_n 0, 1) := dq daX8_keyWith_0 (i := 6) rfl
theorem dX8_keyWith_13 : decode cX8_keyWith 13 = .ok (.getfield 12, 3) := dq daX8_keyWith_0 (i := 7) rfl
theorem dX8_keyWith_16 : decode cX8_keyWith 16 = .ok (.getfield 73, 3) := dq daX8_keyWith_0 (i := 8) rfl
theorem dX8_keyWith_19 : decode cX8_keyWith 19 = .ok (.if_icmp .ge 25, 3) := dq daX8_keyWith_0 (i := 9) rfl
theorem dX8_keyWith_22 : decode cX8_keyWith 22 = .ok (.aload_n 0, 1) := dq daX8_keyWith_0 (i := 10) rfl
theorem dX8_keyWith_23 : decode cX8_keyWith 23 = .ok (.getfield 31, 3) := dq daX8_keyWith_0 (i := 11) rfl
theorem dX8_keyWith_26 : decode cX8_keyWith 26 = .ok (.aload_n 0, 1) := dq daX8_keyWith_0 (i := 12) rfl
theorem dX8_keyWith_27 : decode cX8_keyWith 27 = .ok (.getfield 12, 3) := dq daX8_keyWith_0 (i := 13) rfl
theorem dX8_keyWith_30 : decode cX8_keyWith 30 = .ok (.iload 4, 2) := dq daX8_keyWith_0 (i := 14) rfl
theorem dX8_keyWith_32 : decode cX8_keyWith 32 = .ok (.invokevirtual 86, 3) := dq daX8_keyWith_0 (i := 15) rfl
theorem dX8_keyWith_35 : decode cX8_keyWith 35 = .ok (.invokevirtual 307, 3) := dq daX8_keyWith_0 (i := 16) rfl
theorem dX8_keyWith_38 : decode cX8_keyWith 38 = .ok (.iinc 4 1, 3) := dq daX8_keyWith_0 (i := 17) rfl
theorem dX8_keyWith_41 : decode cX8_keyWith 41 = .ok (.goto (-31), 3) := dq daX8_keyWith_0 (i := 18) rfl
theorem dX8_keyWith_44 : decode cX8_keyWith 44 = .ok (.iload_n 1, 1) := dq daX8_keyWith_0 (i := 19) rfl
theorem dX8_keyWith_45 : decode cX8_keyWith 45 = .ok (.iconst (-1), 1) := dq daX8_keyWith_0 (i := 20) rfl
theorem dX8_keyWith_46 : decode cX8_keyWith 46 = .ok (.if_icmp .eq 13, 3) := dq daX8_keyWith_0 (i := 21) rfl
theorem dX8_keyWith_49 : decode cX8_keyWith 49 = .ok (.aload_n 0, 1) := dq daX8_keyWith_0 (i := 22) rfl
theorem dX8_keyWith_50 : decode cX8_keyWith 50 = .ok (.getfield 31, 3) := dq daX8_keyWith_0 (i := 23) rfl
theorem dX8_keyWith_53 : decode cX8_keyWith 53 = .ok (.iload_n 1, 1) := dq daX8_keyWith_0 (i := 24) rfl
theorem dX8_keyWith_54 : decode cX8_keyWith 54 = .ok (.iconst 1, 1) := dq daX8_keyWith_0 (i := 25) rfl
theorem dX8_keyWith_55 : decode cX8_keyWith 55 = .ok (.iadd, 1) := dq daX8_keyWith_0 (i := 26) rfl
theorem dX8_keyWith_56 : decode cX8_keyWith 56 = .ok (.invokevirtual 307, 3) := dq daX8_keyWith_0 (i := 27) rfl
theorem dX8_keyWith_59 : decode cX8_keyWith 59 = .ok (.iload_n 2, 1) := dq daX8_keyWith_0 (i := 28) rfl
theorem dX8_keyWith_60 : decode cX8_keyWith 60 = .ok (.iconst (-1), 1) := dq daX8_keyWith_0 (i := 29) rfl
theorem dX8_keyWith_61 : decode cX8_keyWith 61 = .ok (.if_icmp .eq 13, 3) := dq daX8_keyWith_0 (i := 30) rfl
theorem dX8_keyWith_64 : decode cX8_keyWith 64 = .ok (.aload_n 0, 1) := dq daX8_keyWith_0 (i := 31) rfl
theorem dX8_keyWith_65 : decode cX8_keyWith 65 = .ok (.getfield 31, 3) := dq daX8_keyWith_0 (i := 32) rfl
theorem dX8_keyWith_68 : decode cX8_keyWith 68 = .ok (.iload_n 2, 1) := dq daX8_keyWith_0 (i := 33) rfl
theorem dX8_keyWith_69 : decode cX8_keyWith 69 = .ok (.iconst 1, 1) := dq daX8_keyWith_0 (i := 34) rfl
theorem dX8_keyWith_70 : decode cX8_keyWith 70 = .ok (.iadd, 1) := dq daX8_keyWith_0 (i := 35) rfl
theorem dX8_keyWith_71 : decode cX8_keyWith 71 = .ok (.invokevirtual 307, 3) := dq daX8_keyWith_0 (i := 36) rfl
theorem dX8_keyWith_74 : decode cX8_keyWith 74 = .ok (.iload_n 3, 1) := dq daX8_keyWith_0 (i := 37) rfl
theorem dX8_keyWith_75 : decode cX8_keyWith 75 = .ok (.iconst (-1), 1) := dq daX8_keyWith_0 (i := 38) rfl
theorem dX8_keyWith_76 : decode cX8_keyWith 76 = .ok (.if_icmp .eq 13, 3) := dq daX8_keyWith_0 (i := 39) rfl
theorem daX8_keyWith_40 : dchk cX8_keyWith [(79, .aload_n 0, 1), (80, .getfield 31, 3), (83, .iload_n 3, 1), (84, .iconst 1, 1), (85, .iadd, 1), (86, .invokevirtual 307, 3), (89, .aload_n 0, 1), (90, .getfield 31, 3), (93, .aload_n 0, 1), (94, .getfield 12, 3), (97, .getfield 61, 3), (100, .invokevirtual 308, 3), (103, .lreturn, 1)] = true := by decide +kernel
theorem dX8_keyWith_79 : decode cX8_keyWith 79 = .ok (.aload_n 0, 1) := dq daX8_keyWith_40 (i := 0) rfl
theorem dX8_keyWith_80 : decode cX8_keyWith 80 = .ok (.getfield 31, 3) := dq daX8_keyWith_40 (i := 1) rfl
theorem dX8_keyWith_83 : decode cX8_keyWith 83 = .ok (.iload_n 3, 1) := dq daX8_keyWith_40 (i := 2) rfl
theorem dX8_keyWith_84 : decode cX8_keyWith 84 = .ok (.iconst 1, 1) := dq daX8_keyWith_40 (i := 3) rfl
theorem dX8_keyWith_85 : decode cX8_keyWith 85 = .ok (.iadd, 1) := dq daX8_keyWith_40 (i := 4) rfl
theorem dX8_keyWith_86 : decode cX8_keyWith 86 = .ok (.invokevirtual 307, 3) := dq daX8_keyWith_40 (i := 5) rfl
theorem dX8_keyWith_89 : decode cX8_keyWith 89 = .ok (.aload_n 0, 1) := dq daX8_keyWith_40 (i := 6) rfl
theorem dX8_keyWith_90 : decode cX8_keyWith 90 = .ok (.getfield 31, 3) := dq daX8_keyWith_40 (i := 7) rfl
theorem dX8_keyWith_93 : decode cX8_keyWith 93 = .ok (.aload_n 0, 1) := dq daX8_keyWith_40 (i := 8) rfl
theorem dX8_keyWith_94 : decode cX8_keyWith 94 = .ok (.getfield 12, 3) := dq daX8_keyWith_40 (i := 9) rfl
theorem dX8_keyWith_97 : decode cX8_keyWith 97 = .ok (.getfield 61, 3) := dq daX8_keyWith_40 (i := 10) rfl
theorem dX8_keyWith_100 : decode cX8_keyWith 100 = .ok (.invokevirtual 308, 3) := dq daX8_keyWith_40 (i := 11) rfl
theorem dX8_keyWith_103 : decode cX8_keyWith 103 = .ok (.lreturn, 1) := dq daX8_keyWith_40 (i := 12) rfl
theorem daX8_aboveWith_0 : dchk cX8_aboveWith [(0, .aload_n 0, 1), (1, .getfield 31, 3), (4, .aload_n 0, 1), (5, .iload_n 1, 1), (6, .iload_n 2, 1), (7, .iload_n 3, 1), (8, .invokevirtual 128, 3), (11, .invokevirtual 311, 3), (14, .lreturn, 1)] = true := by decide +kernel
theorem dX8_aboveWith_0 : decode cX8_aboveWith 0 = .ok (.aload_n 0, 1) := dq daX8_aboveWith_0 (i := 0) rfl
theorem dX8_aboveWith_1 : decode cX8_aboveWith 1 = .ok (.getfield 31, 3) := dq daX8_aboveWith_0 (i := 1) rfl
theorem dX8_aboveWith_4 : decode cX8_aboveWith 4 = .ok (.aload_n 0, 1) := dq daX8_aboveWith_0 (i := 2) rfl
theorem dX8_aboveWith_5 : decode cX8_aboveWith 5 = .ok (.iload_n 1, 1) := dq daX8_aboveWith_0 (i := 3) rfl
theorem dX8_aboveWith_6 : decode cX8_aboveWith 6 = .ok (.iload_n 2, 1) := dq daX8_aboveWith_0 (i := 4) rfl
theorem dX8_aboveWith_7 : decode cX8_aboveWith 7 = .ok (.iload_n 3, 1) := dq daX8_aboveWith_0 (i := 5) rfl
theorem dX8_aboveWith_8 : decode cX8_aboveWith 8 = .ok (.invokevirtual 128, 3) := dq daX8_aboveWith_0 (i := 6) rfl
theorem dX8_aboveWith_11 : decode cX8_aboveWith 11 = .ok (.invokevirtual 311, 3) := dq daX8_aboveWith_0 (i := 7) rfl
theorem dX8_aboveWith_14 : decode cX8_aboveWith 14 = .ok (.lreturn, 1) := dq daX8_aboveWith_0 (i := 8) rfl
theorem daX8_kappaOfTwo_0 : dchk cX8_kappaOfTwo [(0, .aload_n 0, 1), (1, .iload_n 1, 1), (2, .iload_n 2, 1), (3, .iconst (-1), 1), (4, .invokevirtual 116, 3), (7, .aload_n 0, 1), (8, .iload_n 1, 1), (9, .iload_n 2, 1), (10, .iadd, 1), (11, .iconst (-1), 1), (12, .iconst (-1), 1), (13, .invokevirtual 116, 3), (16, .lsub, 1), (17, .lreturn, 1)] = true := by decide +kernel
theorem dX8_kappaOfTwo_0 : decode cX8_kappaOfTwo 0 = .ok (.aload_n 0, 1) := dq daX8_kappaOfTwo_0 (i := 0) rfl
theorem dX8_kappaOfTwo_1 : decode cX8_kappaOfTwo 1 = .ok (.iload_n 1, 1) := dq daX8_kappaOfTwo_0 (i := 1) rfl
theorem dX8_kappaOfTwo_2 : decode cX8_kappaOfTwo 2 = .ok (.iload_n 2, 1) := dq daX8_kappaOfTwo_0 (i := 2) rfl
theorem dX8_kappaOfTwo_3 : decode cX8_kappaOfTwo 3 = .ok (.iconst (-1), 1) := dq daX8_kappaOfTwo_0 (i := 3) rfl
theorem dX8_kappaOfTwo_4 : decode cX8_kappaOfTwo 4 = .ok (.invokevirtual 116, 3) := dq daX8_kappaOfTwo_0 (i := 4) rfl
theorem dX8_kappaOfTwo_7 : decode cX8_kappaOfTwo 7 = .ok (.aload_n 0, 1) := dq daX8_kappaOfTwo_0 (i := 5) rfl
theorem dX8_kappaOfTwo_8 : decode cX8_kappaOfTwo 8 = .ok (.iload_n 1, 1) := dq daX8_kappaOfTwo_0 (i := 6) rfl
theorem dX8_kappaOfTwo_9 : decode cX8_kappaOfTwo 9 = .ok (.iload_n 2, 1) := dq daX8_kappaOfTwo_0 (i := 7) rfl
theorem dX8_kappaOfTwo_10 : decode cX8_kappaOfTwo 10 = .ok (.iadd, 1) := dq daX8_kappaOfTwo_0 (i := 8) rfl
theorem dX8_kappaOfTwo_11 : decode cX8_kappaOfTwo 11 = .ok (.iconst (-1), 1) := dq daX8_kappaOfTwo_0 (i := 9) rfl
theorem dX8_kappaOfTwo_12 : decode cX8_kappaOfTwo 12 = .ok (.iconst (-1), 1) := dq daX8_kappaOfTwo_0 (i := 10) rfl
theorem dX8_kappaOfTwo_13 : decode cX8_kappaOfTwo 13 = .ok (.invokevirtual 116, 3) := dq daX8_kappaOfTwo_0 (i := 11) rfl
theorem dX8_kappaOfTwo_16 : decode cX8_kappaOfTwo 16 = .ok (.lsub, 1) := dq daX8_kappaOfTwo_0 (i := 12) rfl
theorem dX8_kappaOfTwo_17 : decode cX8_kappaOfTwo 17 = .ok (.lreturn, 1) := dq daX8_kappaOfTwo_0 (i := 13) rfl
theorem daX8_kappaOfThree_0 : dchk cX8_kappaOfThree [(0, .aload_n 0, 1), (1, .iload_n 1, 1), (2, .iload_n 2, 1), (3, .iload_n 3, 1), (4, .invokevirtual 116, 3), (7, .aload_n 0, 1), (8, .iload_n 1, 1), (9, .iload_n 2, 1), (10, .iadd, 1), (11, .iload_n 3, 1), (12, .invokevirtual 144, 3), (15, .lsub, 1), (16, .aload_n 0, 1), (17, .iload_n 1, 1), (18, .iload_n 3, 1), (19, .iadd, 1), (20, .iload_n 2, 1), (21, .invokevirtual 144, 3), (24, .lsub, 1), (25, .aload_n 0, 1), (26, .iload_n 2, 1), (27, .iload_n 3, 1), (28, .iadd, 1), (29, .iload_n 1, 1), (30, .invokevirtual 144, 3), (33, .lsub, 1), (34, .ldc2_w 315, 3), (37, .aload_n 0, 1), (38, .iload_n 1, 1), (39, .iload_n 2, 1), (40, .iadd, 1), (41, .iload_n 3, 1), (42, .iadd, 1), (43, .iconst (-1), 1), (44, .iconst (-1), 1), (45, .invokevirtual 116, 3), (48, .lmul, 1), (49, .lsub, 1), (50, .lreturn, 1)] = true := by decide +kernel
theorem dX8_kappaOfThree_0 : decode cX8_kappaOfThree 0 = .ok (.aload_n 0, 1) := dq daX8_kappaOfThree_0 (i := 0) rfl
theorem dX8_kappaOfThree_1 : decode cX8_kappaOfThree 1 = .ok (.iload_n 1, 1) := dq daX8_kappaOfThree_0 (i := 1) rfl
theorem dX8_kappaOfThree_2 : decode cX8_kappaOfThree 2 = .ok (.iload_n 2, 1) := dq daX8_kappaOfThree_0 (i := 2) rfl
theorem dX8_kappaOfThree_3 : decode cX8_kappaOfThree 3 = .ok (.iload_n 3, 1) := dq daX8_kappaOfThree_0 (i := 3) rfl
theorem dX8_kappaOfThree_4 : decode cX8_kappaOfThree 4 = .ok (.invokevirtual 116, 3) := dq daX8_kappaOfThree_0 (i := 4) rfl
theorem dX8_kappaOfThree_7 : decode cX8_kappaOfThree 7 = .ok (.aload_n 0, 1) := dq daX8_kappaOfThree_0 (i := 5) rfl
theorem dX8_kappaOfThree_8 : decode cX8_kappaOfThree 8 = .ok (.iload_n 1, 1) := dq daX8_kappaOfThree_0 (i := 6) rfl
theorem dX8_kappaOfThree_9 : decode cX8_kappaOfThree 9 = .ok (.iload_n 2, 1) := dq daX8_kappaOfThree_0 (i := 7) rfl
theorem dX8_kappaOfThree_10 : decode cX8_kappaOfThree 10 = .ok (.iadd, 1) := dq daX8_kappaOfThree_0 (i := 8) rfl
theorem dX8_kappaOfThree_11 : decode cX8_kappaOfThree 11 = .ok (.iload_n 3, 1) := dq daX8_kappaOfThree_0 (i := 9) rfl
theorem dX8_kappaOfThree_12 : decode cX8_kappaOfThree 12 = .ok (.invokevirtual 144, 3) := dq daX8_kappaOfThree_0 (i := 10) rfl
theorem dX8_kappaOfThree_15 : decode cX8_kappaOfThree 15 = .ok (.lsub, 1) := dq daX8_kappaOfThree_0 (i := 11) rfl
theorem dX8_kappaOfThree_16 : decode cX8_kappaOfThree 16 = .ok (.aload_n 0, 1) := dq daX8_kappaOfThree_0 (i := 12) rfl
theorem dX8_kappaOfThree_17 : decode cX8_kappaOfThree 17 = .ok (.iload_n 1, 1) := dq daX8_kappaOfThree_0 (i := 13) rfl
theorem dX8_kappaOfThree_18 : decode cX8_kappaOfThree 18 = .ok (.iload_n 3, 1) := dq daX8_kappaOfThree_0 (i := 14) rfl
theorem dX8_kappaOfThree_19 : decode cX8_kappaOfThree 19 = .ok (.iadd, 1) := dq daX8_kappaOfThree_0 (i := 15) rfl
theorem dX8_kappaOfThree_20 : decode cX8_kappaOfThree 20 = .ok (.iload_n 2, 1) := dq daX8_kappaOfThree_0 (i := 16) rfl
theorem dX8_kappaOfThree_21 : decode cX8_kappaOfThree 21 = .ok (.invokevirtual 144, 3) := dq daX8_kappaOfThree_0 (i := 17) rfl
theorem dX8_kappaOfThree_24 : decode cX8_kappaOfThree 24 = .ok (.lsub, 1) := dq daX8_kappaOfThree_0 (i := 18) rfl
theorem dX8_kappaOfThree_25 : decode cX8_kappaOfThree 25 = .ok (.aload_n 0, 1) := dq daX8_kappaOfThree_0 (i := 19) rfl
theorem dX8_kappaOfThree_26 : decode cX8_kappaOfThree 26 = .ok (.iload_n 2, 1) := dq daX8_kappaOfThree_0 (i := 20) rfl
theorem dX8_kappaOfThree_27 : decode cX8_kappaOfThree 27 = .ok (.iload_n 3, 1) := dq daX8_kappaOfThree_0 (i := 21) rfl
theorem dX8_kappaOfThree_28 : decode cX8_kappaOfThree 28 = .ok (.iadd, 1) := dq daX8_kappaOfThree_0 (i := 22) rfl
theorem dX8_kappaOfThree_29 : decode cX8_kappaOfThree 29 = .ok (.iload_n 1, 1) := dq daX8_kappaOfThree_0 (i := 23) rfl
theorem dX8_kappaOfThree_30 : decode cX8_kappaOfThree 30 = .ok (.invokevirtual 144, 3) := dq daX8_kappaOfThree_0 (i := 24) rfl
theorem dX8_kappaOfThree_33 : decode cX8_kappaOfThree 33 = .ok (.lsub, 1) := dq daX8_kappaOfThree_0 (i := 25) rfl
theorem dX8_kappaOfThree_34 : decode cX8_kappaOfThree 34 = .ok (.ldc2_w 315, 3) := dq daX8_kappaOfThree_0 (i := 26) rfl
theorem dX8_kappaOfThree_37 : decode cX8_kappaOfThree 37 = .ok (.aload_n 0, 1) := dq daX8_kappaOfThree_0 (i := 27) rfl
theorem dX8_kappaOfThree_38 : decode cX8_kappaOfThree 38 = .ok (.iload_n 1, 1) := dq daX8_kappaOfThree_0 (i := 28) rfl
theorem dX8_kappaOfThree_39 : decode cX8_kappaOfThree 39 = .ok (.iload_n 2, 1) := dq daX8_kappaOfThree_0 (i := 29) rfl
theorem dX8_kappaOfThree_40 : decode cX8_kappaOfThree 40 = .ok (.iadd, 1) := dq daX8_kappaOfThree_0 (i := 30) rfl
theorem dX8_kappaOfThree_41 : decode cX8_kappaOfThree 41 = .ok (.iload_n 3, 1) := dq daX8_kappaOfThree_0 (i := 31) rfl
theorem dX8_kappaOfThree_42 : decode cX8_kappaOfThree 42 = .ok (.iadd, 1) := dq daX8_kappaOfThree_0 (i := 32) rfl
theorem dX8_kappaOfThree_43 : decode cX8_kappaOfThree 43 = .ok (.iconst (-1), 1) := dq daX8_kappaOfThree_0 (i := 33) rfl
theorem dX8_kappaOfThree_44 : decode cX8_kappaOfThree 44 = .ok (.iconst (-1), 1) := dq daX8_kappaOfThree_0 (i := 34) rfl
theorem dX8_kappaOfThree_45 : decode cX8_kappaOfThree 45 = .ok (.invokevirtual 116, 3) := dq daX8_kappaOfThree_0 (i := 35) rfl
theorem dX8_kappaOfThree_48 : decode cX8_kappaOfThree 48 = .ok (.lmul, 1) := dq daX8_kappaOfThree_0 (i := 36) rfl
theorem dX8_kappaOfThree_49 : decode cX8_kappaOfThree 49 = .ok (.lsub, 1) := dq daX8_kappaOfThree_0 (i := 37) rfl
theorem dX8_kappaOfThree_50 : decode cX8_kappaOfThree 50 = .ok (.lreturn, 1) := dq daX8_kappaOfThree_0 (i := 38) rfl
theorem daX8_partOf_0 : dchk cX8_partOf [(0, .lload_n 0, 1), (1, .invokestatic 317, 3), (4, .lload_n 2, 1), (5, .invokestatic 322, 3), (8, .lstore 5, 2), (10, .lload 5, 2), (12, .lconst 0, 1), (13, .lcmp, 1), (14, .ifCond .gt 7, 3), (17, .ldc2_w 114, 3), (20, .lreturn, 1), (21, .iload 4, 2), (23, .ifCond .ne 10, 3), (26, .lload_n 0, 1), (27, .lload 5, 2), (29, .ldiv, 1), (30, .goto 7, 3), (33, .lload_n 2, 1), (34, .lload 5, 2), (36, .ldiv, 1), (37, .lreturn, 1)] = true := by decide +kernel
theorem dX8_partOf_0 : decode cX8_partOf 0 = .ok (.lload_n 0, 1) := dq daX8_partOf_0 (i := 0) rfl
theorem dX8_partOf_1 : decode cX8_partOf 1 = .ok (.invokestatic 317, 3) := dq daX8_partOf_0 (i := 1) rfl
theorem dX8_partOf_4 : decode cX8_partOf 4 = .ok (.lload_n 2, 1) := dq daX8_partOf_0 (i := 2) rfl
theorem dX8_partOf_5 : decode cX8_partOf 5 = .ok (.invokestatic 322, 3) := dq daX8_partOf_0 (i := 3) rfl
theorem dX8_partOf_8 : decode cX8_partOf 8 = .ok (.lstore 5, 2) := dq daX8_partOf_0 (i := 4) rfl
theorem dX8_partOf_10 : decode cX8_partOf 10 = .ok (.lload 5, 2) := dq daX8_partOf_0 (i := 5) rfl
theorem dX8_partOf_12 : decode cX8_partOf 12 = .ok (.lconst 0, 1) := dq daX8_partOf_0 (i := 6) rfl
theorem dX8_partOf_13 : decode cX8_partOf 13 = .ok (.lcmp, 1) := dq daX8_partOf_0 (i := 7) rfl
theorem dX8_partOf_14 : decode cX8_partOf 14 = .ok (.ifCond .gt 7, 3) := dq daX8_partOf_0 (i := 8) rfl
theorem dX8_partOf_17 : decode cX8_partOf 17 = .ok (.ldc2_w 114, 3) := dq daX8_partOf_0 (i := 9) rfl
theorem dX8_partOf_20 : decode cX8_partOf 20 = .ok (.lreturn, 1) := dq daX8_partOf_0 (i := 10) rfl
theorem dX8_partOf_21 : decode cX8_partOf 21 = .ok (.iload 4, 2) := dq daX8_partOf_0 (i := 11) rfl
theorem dX8_partOf_23 : decode cX8_partOf 23 = .ok (.ifCond .ne 10, 3) := dq daX8_partOf_0 (i := 12) rfl
theorem dX8_partOf_26 : decode cX8_partOf 26 = .ok (.lload_n 0, 1) := dq daX8_partOf_0 (i := 13) rfl
theorem dX8_partOf_27 : decode cX8_partOf 27 = .ok (.lload 5, 2) := dq daX8_partOf_0 (i := 14) rfl
theorem dX8_partOf_29 : decode cX8_partOf 29 = .ok (.ldiv, 1) := dq daX8_partOf_0 (i := 15) rfl
theorem dX8_partOf_30 : decode cX8_partOf 30 = .ok (.goto 7, 3) := dq daX8_partOf_0 (i := 16) rfl
theorem dX8_partOf_33 : decode cX8_partOf 33 = .ok (.lload_n 2, 1) := dq daX8_partOf_0 (i := 17) rfl
theorem dX8_partOf_34 : decode cX8_partOf 34 = .ok (.lload 5, 2) := dq daX8_partOf_0 (i := 18) rfl
theorem dX8_partOf_36 : decode cX8_partOf 36 = .ok (.ldiv, 1) := dq daX8_partOf_0 (i := 19) rfl
theorem dX8_partOf_37 : decode cX8_partOf 37 = .ok (.lreturn, 1) := dq daX8_partOf_0 (i := 20) rfl
theorem daX8_greatestDivisor_0 : dchk cX8_greatestDivisor [(0, .lload_n 0, 1), (1, .lstore 4, 2), (3, .lload_n 2, 1), (4, .lstore 6, 2), (6, .iconst 0, 1), (7, .istore 8, 2), (9, .iload 8, 2), (11, .sipush 200, 3), (14, .if_icmp .ge 31, 3), (17, .lload 6, 2), (19, .lconst 0, 1), (20, .lcmp, 1), (21, .ifCond .eq 24, 3), (24, .lload 4, 2), (26, .lload 6, 2), (28, .lrem, 1), (29, .lstore 9, 2), (31, .lload 6, 2), (33, .lstore 4, 2), (35, .lload 9, 2), (37, .lstore 6, 2), (39, .iinc 8 1, 3), (42, .goto (-33), 3), (45, .lload 4, 2), (47, .lreturn, 1)] = true := by decide +kernel
theorem dX8_greatestDivisor_0 : decode cX8_greatestDivisor 0 = .ok (.lload_n 0, 1) := dq daX8_greatestDivisor_0 (i := 0) rfl
theorem dX8_greatestDivisor_1 : decode cX8_greatestDivisor 1 = .ok (.lstore 4, 2) := dq daX8_greatestDivisor_0 (i := 1) rfl
theorem dX8_greatestDivisor_3 : decode cX8_greatestDivisor 3 = .ok (.lload_n 2, 1) := dq daX8_greatestDivisor_0 (i := 2) rfl
theorem dX8_greatestDivisor_4 : decode cX8_greatestDivisor 4 = .ok (.lstore 6, 2) := dq daX8_greatestDivisor_0 (i := 3) rfl
theorem dX8_greatestDivisor_6 : decode cX8_greatestDivisor 6 = .ok (.iconst 0, 1) := dq daX8_greatestDivisor_0 (i := 4) rfl
theorem dX8_greatestDivisor_7 : decode cX8_greatestDivisor 7 = .ok (.istore 8, 2) := dq daX8_greatestDivisor_0 (i := 5) rfl
theorem dX8_greatestDivisor_9 : decode cX8_greatestDivisor 9 = .ok (.iload 8, 2) := dq daX8_greatestDivisor_0 (i := 6) rfl
theorem dX8_greatestDivisor_11 : decode cX8_greatestDivisor 11 = .ok (.sipush 200, 3) := dq daX8_greatestDivisor_0 (i := 7) rfl
theorem dX8_greatestDivisor_14 : decode cX8_greatestDivisor 14 = .ok (.if_icmp .ge 31, 3) := dq daX8_greatestDivisor_0 (i := 8) rfl
theorem dX8_greatestDivisor_17 : decode cX8_greatestDivisor 17 = .ok (.lload 6, 2) := dq daX8_greatestDivisor_0 (i := 9) rfl
theorem dX8_greatestDivisor_19 : decode cX8_greatestDivisor 19 = .ok (.lconst 0, 1) := dq daX8_greatestDivisor_0 (i := 10) rfl
theorem dX8_greatestDivisor_20 : decode cX8_greatestDivisor 20 = .ok (.lcmp, 1) := dq daX8_greatestDivisor_0 (i := 11) rfl
theorem dX8_greatestDivisor_21 : decode cX8_greatestDivisor 21 = .ok (.ifCond .eq 24, 3) := dq daX8_greatestDivisor_0 (i := 12) rfl
theorem dX8_greatestDivisor_24 : decode cX8_greatestDivisor 24 = .ok (.lload 4, 2) := dq daX8_greatestDivisor_0 (i := 13) rfl
theorem dX8_greatestDivisor_26 : decode cX8_greatestDivisor 26 = .ok (.lload 6, 2) := dq daX8_greatestDivisor_0 (i := 14) rfl
theorem dX8_greatestDivisor_28 : decode cX8_greatestDivisor 28 = .ok (.lrem, 1) := dq daX8_greatestDivisor_0 (i := 15) rfl
theorem dX8_greatestDivisor_29 : decode cX8_greatestDivisor 29 = .ok (.lstore 9, 2) := dq daX8_greatestDivisor_0 (i := 16) rfl
theorem dX8_greatestDivisor_31 : decode cX8_greatestDivisor 31 = .ok (.lload 6, 2) := dq daX8_greatestDivisor_0 (i := 17) rfl
theorem dX8_greatestDivisor_33 : decode cX8_greatestDivisor 33 = .ok (.lstore 4, 2) := dq daX8_greatestDivisor_0 (i := 18) rfl
theorem dX8_greatestDivisor_35 : decode cX8_greatestDivisor 35 = .ok (.lload 9, 2) := dq daX8_greatestDivisor_0 (i := 19) rfl
theorem dX8_greatestDivisor_37 : decode cX8_greatestDivisor 37 = .ok (.lstore 6, 2) := dq daX8_greatestDivisor_0 (i := 20) rfl
theorem dX8_greatestDivisor_39 : decode cX8_greatestDivisor 39 = .ok (.iinc 8 1, 3) := dq daX8_greatestDivisor_0 (i := 21) rfl
theorem dX8_greatestDivisor_42 : decode cX8_greatestDivisor 42 = .ok (.goto (-33), 3) := dq daX8_greatestDivisor_0 (i := 22) rfl
theorem dX8_greatestDivisor_45 : decode cX8_greatestDivisor 45 = .ok (.lload 4, 2) := dq daX8_greatestDivisor_0 (i := 23) rfl
theorem dX8_greatestDivisor_47 : decode cX8_greatestDivisor 47 = .ok (.lreturn, 1) := dq daX8_greatestDivisor_0 (i := 24) rfl
theorem daX8_numberOfNode_0 : dchk cX8_numberOfNode [(0, .iload_n 1, 1), (1, .aload_n 0, 1), (2, .getfield 12, 3), (5, .getfield 153, 3), (8, .invokestatic 185, 3), (11, .istore_n 2, 1), (12, .aload_n 0, 1), (13, .getfield 12, 3), (16, .getfield 156, 3), (19, .iload_n 2, 1), (20, .invokestatic 189, 3), (23, .istore_n 3, 1), (24, .aload_n 0, 1), (25, .getfield 12, 3), (28, .getfield 156, 3), (31, .iload_n 2, 1), (32, .invokestatic 197, 3), (35, .istore 4, 2), (37, .iload_n 1, 1), (38, .ifCond .ne 10, 3), (41, .iload_n 3, 1), (42, .iconst 1, 1), (43, .ior, 1), (44, .istore_n 3, 1), (45, .goto 6, 3), (48, .iinc 4 1, 3), (51, .aload_n 0, 1), (52, .getfield 31, 3), (55, .invokevirtual 304, 3), (58, .iconst 0, 1), (59, .istore 5, 2), (61, .iload 5, 2), (63, .aload_n 0, 1), (64, .getfield 12, 3), (67, .getfield 73, 3), (70, .if_icmp .ge 34, 3), (73, .iload_n 3, 1), (74, .iload 5, 2), (76, .ishr, 1), (77, .iconst 1, 1)] = true := by decide +kernel
theorem dX8_numberOfNode_0 : decode cX8_numberOfNode 0 = .ok (.iload_n 1, 1) := dq daX8_numberOfNode_0 (i := 0) rfl
theorem dX8_numberOfNode_1 : decode cX8_numberOfNode 1 = .ok (.aload_n 0, 1) := dq daX8_numberOfNode_0 (i := 1) rfl
theorem dX8_numberOfNode_2 : decode cX8_numberOfNode 2 = .ok (.getfield 12, 3) := dq daX8_numberOfNode_0 (i := 2) rfl
theorem dX8_numberOfNode_5 : decode cX8_numberOfNode 5 = .ok (.getfield 153, 3) := dq daX8_numberOfNode_0 (i := 3) rfl
theorem dX8_numberOfNode_8 : decode cX8_numberOfNode 8 = .ok (.invokestatic 185, 3) := dq daX8_numberOfNode_0 (i := 4) rfl
theorem dX8_numberOfNode_11 : decode cX8_numberOfNode 11 = .ok (.istore_n 2, 1) := dq daX8_numberOfNode_0 (i := 5) rfl
theorem dX8_numberOfNode_12 : decode cX8_numberOfNode 12 = .ok (.aload_n 0, 1) := dq daX8_numberOfNode_0 (i := 6) rfl
theorem dX8_numberOfNode_13 : decode cX8_numberOfNode 13 = .ok (.getfield 12, 3) := dq daX8_numberOfNode_0 (i := 7) rfl
theorem dX8_numberOfNode_16 : decode cX8_numberOfNode 16 = .ok (.getfield 156, 3) := dq daX8_numberOfNode_0 (i := 8) rfl
theorem dX8_numberOfNode_19 : decode cX8_numberOfNode 19 = .ok (.iload_n 2, 1) := dq daX8_numberOfNode_0 (i := 9) rfl
theorem dX8_numberOfNode_20 : decode cX8_numberOfNode 20 = .ok (.invokestatic 189, 3) := dq daX8_numberOfNode_0 (i := 10) rfl
theorem dX8_numberOfNode_23 : decode cX8_numberOfNode 23 = .ok (.istore_n 3, 1) := dq daX8_numberOfNode_0 (i := 11) rfl
theorem dX8_numberOfNode_24 : decode cX8_numberOfNode 24 = .ok (.aload_n 0, 1) := dq daX8_numberOfNode_0 (i := 12) rfl
theorem dX8_numberOfNode_25 : decode cX8_numberOfNode 25 = .ok (.getfield 12, 3) := dq daX8_numberOfNode_0 (i := 13) rfl
theorem dX8_numberOfNode_28 : decode cX8_numberOfNode 28 = .ok (.getfield 156, 3) := dq daX8_numberOfNode_0 (i := 14) rfl
theorem dX8_numberOfNode_31 : decode cX8_numberOfNode 31 = .ok (.iload_n 2, 1) := dq daX8_numberOfNode_0 (i := 15) rfl
theorem dX8_numberOfNode_32 : decode cX8_numberOfNode 32 = .ok (.invokestatic 197, 3) := dq daX8_numberOfNode_0 (i := 16) rfl
theorem dX8_numberOfNode_35 : decode cX8_numberOfNode 35 = .ok (.istore 4, 2) := dq daX8_numberOfNode_0 (i := 17) rfl
theorem dX8_numberOfNode_37 : decode cX8_numberOfNode 37 = .ok (.iload_n 1, 1) := dq daX8_numberOfNode_0 (i := 18) rfl
theorem dX8_numberOfNode_38 : decode cX8_numberOfNode 38 = .ok (.ifCond .ne 10, 3) := dq daX8_numberOfNode_0 (i := 19) rfl
theorem dX8_numberOfNode_41 : decode cX8_numberOfNode 41 = .ok (.iload_n 3, 1) := dq daX8_numberOfNode_0 (i := 20) rfl
theorem dX8_numberOfNode_42 : decode cX8_numberOfNode 42 = .ok (.iconst 1, 1) := dq daX8_numberOfNode_0 (i := 21) rfl
theorem dX8_numberOfNode_43 : decode cX8_numberOfNode 43 = .ok (.ior, 1) := dq daX8_numberOfNode_0 (i := 22) rfl
theorem dX8_numberOfNode_44 : decode cX8_numberOfNode 44 = .ok (.istore_n 3, 1) := dq daX8_numberOfNode_0 (i := 23) rfl
theorem dX8_numberOfNode_45 : decode cX8_numberOfNode 45 = .ok (.goto 6, 3) := dq daX8_numberOfNode_0 (i := 24) rfl
theorem dX8_numberOfNode_48 : decode cX8_numberOfNode 48 = .ok (.iinc 4 1, 3) := dq daX8_numberOfNode_0 (i := 25) rfl
theorem dX8_numberOfNode_51 : decode cX8_numberOfNode 51 = .ok (.aload_n 0, 1) := dq daX8_numberOfNode_0 (i := 26) rfl
theorem dX8_numberOfNode_52 : decode cX8_numberOfNode 52 = .ok (.getfield 31, 3) := dq daX8_numberOfNode_0 (i := 27) rfl
theorem dX8_numberOfNode_55 : decode cX8_numberOfNode 55 = .ok (.invokevirtual 304, 3) := dq daX8_numberOfNode_0 (i := 28) rfl
theorem dX8_numberOfNode_58 : decode cX8_numberOfNode 58 = .ok (.iconst 0, 1) := dq daX8_numberOfNode_0 (i := 29) rfl
theorem dX8_numberOfNode_59 : decode cX8_numberOfNode 59 = .ok (.istore 5, 2) := dq daX8_numberOfNode_0 (i := 30) rfl
theorem dX8_numberOfNode_61 : decode cX8_numberOfNode 61 = .ok (.iload 5, 2) := dq daX8_numberOfNode_0 (i := 31) rfl
theorem dX8_numberOfNode_63 : decode cX8_numberOfNode 63 = .ok (.aload_n 0, 1) := dq daX8_numberOfNode_0 (i := 32) rfl
theorem dX8_numberOfNode_64 : decode cX8_numberOfNode 64 = .ok (.getfield 12, 3) := dq daX8_numberOfNode_0 (i := 33) rfl
theorem dX8_numberOfNode_67 : decode cX8_numberOfNode 67 = .ok (.getfield 73, 3) := dq daX8_numberOfNode_0 (i := 34) rfl
theorem dX8_numberOfNode_70 : decode cX8_numberOfNode 70 = .ok (.if_icmp .ge 34, 3) := dq daX8_numberOfNode_0 (i := 35) rfl
theorem dX8_numberOfNode_73 : decode cX8_numberOfNode 73 = .ok (.iload_n 3, 1) := dq daX8_numberOfNode_0 (i := 36) rfl
theorem dX8_numberOfNode_74 : decode cX8_numberOfNode 74 = .ok (.iload 5, 2) := dq daX8_numberOfNode_0 (i := 37) rfl
theorem dX8_numberOfNode_76 : decode cX8_numberOfNode 76 = .ok (.ishr, 1) := dq daX8_numberOfNode_0 (i := 38) rfl
theorem dX8_numberOfNode_77 : decode cX8_numberOfNode 77 = .ok (.iconst 1, 1) := dq daX8_numberOfNode_0 (i := 39) rfl
theorem daX8_numberOfNode_40 : dchk cX8_numberOfNode [(78, .iand, 1), (79, .ifCond .eq 19, 3), (82, .aload_n 0, 1), (83, .getfield 31, 3), (86, .aload_n 0, 1), (87, .getfield 12, 3), (90, .iload 5, 2), (92, .invokevirtual 86, 3), (95, .invokevirtual 307, 3), (98, .iinc 5 1, 3), (101, .goto (-40), 3), (104, .iconst 0, 1), (105, .istore 5, 2), (107, .iload 5, 2), (109, .iload 4, 2), (111, .if_icmp .ge 17, 3), (114, .aload_n 0, 1), (115, .getfield 31, 3), (118, .iconst 0, 1), (119, .invokevirtual 307, 3), (122, .iinc 5 1, 3), (125, .goto (-18), 3), (128, .aload_n 0, 1), (129, .getfield 31, 3), (132, .aload_n 0, 1), (133, .getfield 31, 3), (136, .iconst 0, 1), (137, .invokevirtual 308, 3), (140, .invokevirtual 311, 3), (143, .lreturn, 1)] = true := by decide +kernel
theorem dX8_numberOfNode_78 : decode cX8_numberOfNode 78 = .ok (.iand, 1) := dq daX8_numberOfNode_40 (i := 0) rfl
theorem dX8_numberOfNode_79 : decode cX8_numberOfNode 79 = .ok (.ifCond .eq 19, 3) := dq daX8_numberOfNode_40 (i := 1) rfl
theorem dX8_numberOfNode_82 : decode cX8_numberOfNode 82 = .ok (.aload_n 0, 1) := dq daX8_numberOfNode_40 (i := 2) rfl
theorem dX8_numberOfNode_83 : decode cX8_numberOfNode 83 = .ok (.getfield 31, 3) := dq daX8_numberOfNode_40 (i := 3) rfl
theorem dX8_numberOfNode_86 : decode cX8_numberOfNode 86 = .ok (.aload_n 0, 1) := dq daX8_numberOfNode_40 (i := 4) rfl
theorem dX8_numberOfNode_87 : decode cX8_numberOfNode 87 = .ok (.getfield 12, 3) := dq daX8_numberOfNode_40 (i := 5) rfl
theorem dX8_numberOfNode_90 : decode cX8_numberOfNode 90 = .ok (.iload 5, 2) := dq daX8_numberOfNode_40 (i := 6) rfl
theorem dX8_numberOfNode_92 : decode cX8_numberOfNode 92 = .ok (.invokevirtual 86, 3) := dq daX8_numberOfNode_40 (i := 7) rfl
theorem dX8_numberOfNode_95 : decode cX8_numberOfNode 95 = .ok (.invokevirtual 307, 3) := dq daX8_numberOfNode_40 (i := 8) rfl
theorem dX8_numberOfNode_98 : decode cX8_numberOfNode 98 = .ok (.iinc 5 1, 3) := dq daX8_numberOfNode_40 (i := 9) rfl
theorem dX8_numberOfNode_101 : decode cX8_numberOfNode 101 = .ok (.goto (-40), 3) := dq daX8_numberOfNode_40 (i := 10) rfl
theorem dX8_numberOfNode_104 : decode cX8_numberOfNode 104 = .ok (.iconst 0, 1) := dq daX8_numberOfNode_40 (i := 11) rfl
theorem dX8_numberOfNode_105 : decode cX8_numberOfNode 105 = .ok (.istore 5, 2) := dq daX8_numberOfNode_40 (i := 12) rfl
theorem dX8_numberOfNode_107 : decode cX8_numberOfNode 107 = .ok (.iload 5, 2) := dq daX8_numberOfNode_40 (i := 13) rfl
theorem dX8_numberOfNode_109 : decode cX8_numberOfNode 109 = .ok (.iload 4, 2) := dq daX8_numberOfNode_40 (i := 14) rfl
theorem dX8_numberOfNode_111 : decode cX8_numberOfNode 111 = .ok (.if_icmp .ge 17, 3) := dq daX8_numberOfNode_40 (i := 15) rfl
theorem dX8_numberOfNode_114 : decode cX8_numberOfNode 114 = .ok (.aload_n 0, 1) := dq daX8_numberOfNode_40 (i := 16) rfl
theorem dX8_numberOfNode_115 : decode cX8_numberOfNode 115 = .ok (.getfield 31, 3) := dq daX8_numberOfNode_40 (i := 17) rfl
theorem dX8_numberOfNode_118 : decode cX8_numberOfNode 118 = .ok (.iconst 0, 1) := dq daX8_numberOfNode_40 (i := 18) rfl
theorem dX8_numberOfNode_119 : decode cX8_numberOfNode 119 = .ok (.invokevirtual 307, 3) := dq daX8_numberOfNode_40 (i := 19) rfl
theorem dX8_numberOfNode_122 : decode cX8_numberOfNode 122 = .ok (.iinc 5 1, 3) := dq daX8_numberOfNode_40 (i := 20) rfl
theorem dX8_numberOfNode_125 : decode cX8_numberOfNode 125 = .ok (.goto (-18), 3) := dq daX8_numberOfNode_40 (i := 21) rfl
theorem dX8_numberOfNode_128 : decode cX8_numberOfNode 128 = .ok (.aload_n 0, 1) := dq daX8_numberOfNode_40 (i := 22) rfl
theorem dX8_numberOfNode_129 : decode cX8_numberOfNode 129 = .ok (.getfield 31, 3) := dq daX8_numberOfNode_40 (i := 23) rfl
theorem dX8_numberOfNode_132 : decode cX8_numberOfNode 132 = .ok (.aload_n 0, 1) := dq daX8_numberOfNode_40 (i := 24) rfl
theorem dX8_numberOfNode_133 : decode cX8_numberOfNode 133 = .ok (.getfield 31, 3) := dq daX8_numberOfNode_40 (i := 25) rfl
theorem dX8_numberOfNode_136 : decode cX8_numberOfNode 136 = .ok (.iconst 0, 1) := dq daX8_numberOfNode_40 (i := 26) rfl
theorem dX8_numberOfNode_137 : decode cX8_numberOfNode 137 = .ok (.invokevirtual 308, 3) := dq daX8_numberOfNode_40 (i := 27) rfl
theorem dX8_numberOfNode_140 : decode cX8_numberOfNode 140 = .ok (.invokevirtual 311, 3) := dq daX8_numberOfNode_40 (i := 28) rfl
theorem dX8_numberOfNode_143 : decode cX8_numberOfNode 143 = .ok (.lreturn, 1) := dq daX8_numberOfNode_40 (i := 29) rfl
theorem daX9_init_0 : dchk cX9_init [(0, .aload_n 0, 1), (1, .invokespecial 3, 3), (4, .aload_n 0, 1), (5, .bipush 8, 2), (7, .newarray .int, 2), (9, .putfield 11, 3), (12, .aload_n 0, 1), (13, .iconst 4, 1), (14, .putfield 15, 3), (17, .aload_n 0, 1), (18, .iconst 3, 1), (19, .newarray .int, 2), (21, .putfield 19, 3), (24, .aload_n 0, 1), (25, .sipush 144, 3), (28, .newarray .int, 2), (30, .putfield 22, 3), (33, .aload_n 0, 1), (34, .sipush 144, 3), (37, .newarray .int, 2), (39, .putfield 25, 3), (42, .aload_n 0, 1), (43, .bipush 16, 2), (45, .newarray .int, 2), (47, .putfield 28, 3), (50, .aload_n 0, 1), (51, .sipush 480, 3), (54, .newarray .int, 2), (56, .putfield 31, 3), (59, .aload_n 0, 1), (60, .ldc 34, 2), (62, .newarray .int, 2), (64, .putfield 35, 3), (67, .aload_n 0, 1), (68, .sipush 3000, 3), (71, .newarray .int, 2), (73, .putfield 38, 3), (76, .aload_n 0, 1), (77, .bipush 10, 2), (79, .newarray .int, 2)] = true := by decide +kernel
theorem dX9_init_0 : decode cX9_init 0 = .ok (.aload_n 0, 1) := dq daX9_init_0 (i := 0) rfl
theorem dX9_init_1 : decode cX9_init 1 = .ok (.invokespecial 3, 3) := dq daX9_init_0 (i := 1) rfl
theorem dX9_init_4 : decode cX9_init 4 = .ok (.aload_n 0, 1) := dq daX9_init_0 (i := 2) rfl
theorem dX9_init_5 : decode cX9_init 5 = .ok (.bipush 8, 2) := dq daX9_init_0 (i := 3) rfl
theorem dX9_init_7 : decode cX9_init 7 = .ok (.newarray .int, 2) := dq daX9_init_0 (i := 4) rfl
theorem dX9_init_9 : decode cX9_init 9 = .ok (.putfield 11, 3) := dq daX9_init_0 (i := 5) rfl
theorem dX9_init_12 : decode cX9_init 12 = .ok (.aload_n 0, 1) := dq daX9_init_0 (i := 6) rfl
theorem dX9_init_13 : decode cX9_init 13 = .ok (.iconst 4, 1) := dq daX9_init_0 (i := 7) rfl
theorem dX9_init_14 : decode cX9_init 14 = .ok (.putfield 15, 3) := dq daX9_init_0 (i := 8) rfl
theorem dX9_init_17 : decode cX9_init 17 = .ok (.aload_n 0, 1) := dq daX9_init_0 (i := 9) rfl
theorem dX9_init_18 : decode cX9_init 18 = .ok (.iconst 3, 1) := dq daX9_init_0 (i := 10) rfl
theorem dX9_init_19 : decode cX9_init 19 = .ok (.newarray .int, 2) := dq daX9_init_0 (i := 11) rfl
theorem dX9_init_21 : decode cX9_init 21 = .ok (.putfield 19, 3) := dq daX9_init_0 (i := 12) rfl
theorem dX9_init_24 : decode cX9_init 24 = .ok (.aload_n 0, 1) := dq daX9_init_0 (i := 13) rfl
theorem dX9_init_25 : decode cX9_init 25 = .ok (.sipush 144, 3) := dq daX9_init_0 (i := 14) rfl
theorem dX9_init_28 : decode cX9_init 28 = .ok (.newarray .int, 2) := dq daX9_init_0 (i := 15) rfl
theorem dX9_init_30 : decode cX9_init 30 = .ok (.putfield 22, 3) := dq daX9_init_0 (i := 16) rfl
theorem dX9_init_33 : decode cX9_init 33 = .ok (.aload_n 0, 1) := dq daX9_init_0 (i := 17) rfl
theorem dX9_init_34 : decode cX9_init 34 = .ok (.sipush 144, 3) := dq daX9_init_0 (i := 18) rfl
theorem dX9_init_37 : decode cX9_init 37 = .ok (.newarray .int, 2) := dq daX9_init_0 (i := 19) rfl
theorem dX9_init_39 : decode cX9_init 39 = .ok (.putfield 25, 3) := dq daX9_init_0 (i := 20) rfl
theorem dX9_init_42 : decode cX9_init 42 = .ok (.aload_n 0, 1) := dq daX9_init_0 (i := 21) rfl
theorem dX9_init_43 : decode cX9_init 43 = .ok (.bipush 16, 2) := dq daX9_init_0 (i := 22) rfl
theorem dX9_init_45 : decode cX9_init 45 = .ok (.newarray .int, 2) := dq daX9_init_0 (i := 23) rfl
theorem dX9_init_47 : decode cX9_init 47 = .ok (.putfield 28, 3) := dq daX9_init_0 (i := 24) rfl
theorem dX9_init_50 : decode cX9_init 50 = .ok (.aload_n 0, 1) := dq daX9_init_0 (i := 25) rfl
theorem dX9_init_51 : decode cX9_init 51 = .ok (.sipush 480, 3) := dq daX9_init_0 (i := 26) rfl
theorem dX9_init_54 : decode cX9_init 54 = .ok (.newarray .int, 2) := dq daX9_init_0 (i := 27) rfl
theorem dX9_init_56 : decode cX9_init 56 = .ok (.putfield 31, 3) := dq daX9_init_0 (i := 28) rfl
theorem dX9_init_59 : decode cX9_init 59 = .ok (.aload_n 0, 1) := dq daX9_init_0 (i := 29) rfl
theorem dX9_init_60 : decode cX9_init 60 = .ok (.ldc 34, 2) := dq daX9_init_0 (i := 30) rfl
theorem dX9_init_62 : decode cX9_init 62 = .ok (.newarray .int, 2) := dq daX9_init_0 (i := 31) rfl
theorem dX9_init_64 : decode cX9_init 64 = .ok (.putfield 35, 3) := dq daX9_init_0 (i := 32) rfl
theorem dX9_init_67 : decode cX9_init 67 = .ok (.aload_n 0, 1) := dq daX9_init_0 (i := 33) rfl
theorem dX9_init_68 : decode cX9_init 68 = .ok (.sipush 3000, 3) := dq daX9_init_0 (i := 34) rfl
theorem dX9_init_71 : decode cX9_init 71 = .ok (.newarray .int, 2) := dq daX9_init_0 (i := 35) rfl
theorem dX9_init_73 : decode cX9_init 73 = .ok (.putfield 38, 3) := dq daX9_init_0 (i := 36) rfl
theorem dX9_init_76 : decode cX9_init 76 = .ok (.aload_n 0, 1) := dq daX9_init_0 (i := 37) rfl
theorem dX9_init_77 : decode cX9_init 77 = .ok (.bipush 10, 2) := dq daX9_init_0 (i := 38) rfl
theorem dX9_init_79 : decode cX9_init 79 = .ok (.newarray .int, 2) := dq daX9_init_0 (i := 39) rfl
theorem daX9_init_40 : dchk cX9_init [(81, .putfield 41, 3), (84, .aload_n 0, 1), (85, .bipush 60, 2), (87, .newarray .int, 2), (89, .putfield 44, 3), (92, .aload_n 0, 1), (93, .bipush 8, 2), (95, .newarray .int, 2), (97, .putfield 47, 3), (100, .aload_n 0, 1), (101, .bipush 8, 2), (103, .newarray .int, 2), (105, .putfield 50, 3), (108, .aload_n 0, 1), (109, .iconst 3, 1), (110, .newarray .int, 2), (112, .putfield 53, 3), (115, .aload_n 0, 1), (116, .iconst 3, 1), (117, .newarray .int, 2), (119, .putfield 56, 3), (122, .aload_n 0, 1), (123, .bipush 6, 2), (125, .newarray .int, 2), (127, .putfield 59, 3), (130, .aload_n 0, 1), (131, .bipush 80, 2), (133, .newarray .int, 2), (135, .putfield 62, 3), (138, .aload_n 0, 1), (139, .bipush 6, 2), (141, .newarray .int, 2), (143, .putfield 65, 3), (146, .aload_n 0, 1), (147, .bipush 6, 2), (149, .newarray .long, 2), (151, .putfield 68, 3), (154, .aload_n 0, 1), (155, .bipush 6, 2), (157, .newarray .int, 2)] = true := by decide +kernel
theorem dX9_init_81 : decode cX9_init 81 = .ok (.putfield 41, 3) := dq daX9_init_40 (i := 0) rfl
theorem dX9_init_84 : decode cX9_init 84 = .ok (.aload_n 0, 1) := dq daX9_init_40 (i := 1) rfl
theorem dX9_init_85 : decode cX9_init 85 = .ok (.bipush 60, 2) := dq daX9_init_40 (i := 2) rfl
theorem dX9_init_87 : decode cX9_init 87 = .ok (.newarray .int, 2) := dq daX9_init_40 (i := 3) rfl
theorem dX9_init_89 : decode cX9_init 89 = .ok (.putfield 44, 3) := dq daX9_init_40 (i := 4) rfl
theorem dX9_init_92 : decode cX9_init 92 = .ok (.aload_n 0, 1) := dq daX9_init_40 (i := 5) rfl
theorem dX9_init_93 : decode cX9_init 93 = .ok (.bipush 8, 2) := dq daX9_init_40 (i := 6) rfl
theorem dX9_init_95 : decode cX9_init 95 = .ok (.newarray .int, 2) := dq daX9_init_40 (i := 7) rfl
theorem dX9_init_97 : decode cX9_init 97 = .ok (.putfield 47, 3) := dq daX9_init_40 (i := 8) rfl
theorem dX9_init_100 : decode cX9_init 100 = .ok (.aload_n 0, 1) := dq daX9_init_40 (i := 9) rfl
theorem dX9_init_101 : decode cX9_init 101 = .ok (.bipush 8, 2) := dq daX9_init_40 (i := 10) rfl
theorem dX9_init_103 : decode cX9_init 103 = .ok (.newarray .int, 2) := dq daX9_init_40 (i := 11) rfl
theorem dX9_init_105 : decode cX9_init 105 = .ok (.putfield 50, 3) := dq daX9_init_40 (i := 12) rfl
theorem dX9_init_108 : decode cX9_init 108 = .ok (.aload_n 0, 1) := dq daX9_init_40 (i := 13) rfl
theorem dX9_init_109 : decode cX9_init 109 = .ok (.iconst 3, 1) := dq daX9_init_40 (i := 14) rfl
theorem dX9_init_110 : decode cX9_init 110 = .ok (.newarray .int, 2) := dq daX9_init_40 (i := 15) rfl
theorem dX9_init_112 : decode cX9_init 112 = .ok (.putfield 53, 3) := dq daX9_init_40 (i := 16) rfl
theorem dX9_init_115 : decode cX9_init 115 = .ok (.aload_n 0, 1) := dq daX9_init_40 (i := 17) rfl
theorem dX9_init_116 : decode cX9_init 116 = .ok (.iconst 3, 1) := dq daX9_init_40 (i := 18) rfl
theorem dX9_init_117 : decode cX9_init 117 = .ok (.newarray .int, 2) := dq daX9_init_40 (i := 19) rfl
theorem dX9_init_119 : decode cX9_init 119 = .ok (.putfield 56, 3) := dq daX9_init_40 (i := 20) rfl
theorem dX9_init_122 : decode cX9_init 122 = .ok (.aload_n 0, 1) := dq daX9_init_40 (i := 21) rfl
theorem dX9_init_123 : decode cX9_init 123 = .ok (.bipush 6, 2) := dq daX9_init_40 (i := 22) rfl
theorem dX9_init_125 : decode cX9_init 125 = .ok (.newarray .int, 2) := dq daX9_init_40 (i := 23) rfl
theorem dX9_init_127 : decode cX9_init 127 = .ok (.putfield 59, 3) := dq daX9_init_40 (i := 24) rfl
theorem dX9_init_130 : decode cX9_init 130 = .ok (.aload_n 0, 1) := dq daX9_init_40 (i := 25) rfl
theorem dX9_init_131 : decode cX9_init 131 = .ok (.bipush 80, 2) := dq daX9_init_40 (i := 26) rfl
theorem dX9_init_133 : decode cX9_init 133 = .ok (.newarray .int, 2) := dq daX9_init_40 (i := 27) rfl
theorem dX9_init_135 : decode cX9_init 135 = .ok (.putfield 62, 3) := dq daX9_init_40 (i := 28) rfl
theorem dX9_init_138 : decode cX9_init 138 = .ok (.aload_n 0, 1) := dq daX9_init_40 (i := 29) rfl
theorem dX9_init_139 : decode cX9_init 139 = .ok (.bipush 6, 2) := dq daX9_init_40 (i := 30) rfl
theorem dX9_init_141 : decode cX9_init 141 = .ok (.newarray .int, 2) := dq daX9_init_40 (i := 31) rfl
theorem dX9_init_143 : decode cX9_init 143 = .ok (.putfield 65, 3) := dq daX9_init_40 (i := 32) rfl
theorem dX9_init_146 : decode cX9_init 146 = .ok (.aload_n 0, 1) := dq daX9_init_40 (i := 33) rfl
theorem dX9_init_147 : decode cX9_init 147 = .ok (.bipush 6, 2) := dq daX9_init_40 (i := 34) rfl
theorem dX9_init_149 : decode cX9_init 149 = .ok (.newarray .long, 2) := dq daX9_init_40 (i := 35) rfl
theorem dX9_init_151 : decode cX9_init 151 = .ok (.putfield 68, 3) := dq daX9_init_40 (i := 36) rfl
theorem dX9_init_154 : decode cX9_init 154 = .ok (.aload_n 0, 1) := dq daX9_init_40 (i := 37) rfl
theorem dX9_init_155 : decode cX9_init 155 = .ok (.bipush 6, 2) := dq daX9_init_40 (i := 38) rfl
theorem dX9_init_157 : decode cX9_init 157 = .ok (.newarray .int, 2) := dq daX9_init_40 (i := 39) rfl
theorem daX9_init_80 : dchk cX9_init [(159, .putfield 72, 3), (162, .aload_n 0, 1), (163, .bipush 6, 2), (165, .newarray .int, 2), (167, .putfield 75, 3), (170, .aload_n 0, 1), (171, .bipush 120, 2), (173, .newarray .int, 2), (175, .putfield 78, 3), (178, .aload_n 0, 1), (179, .bipush 16, 2), (181, .newarray .int, 2), (183, .putfield 81, 3), (186, .return_, 1)] = true := by decide +kernel
theorem dX9_init_159 : decode cX9_init 159 = .ok (.putfield 72, 3) := dq daX9_init_80 (i := 0) rfl
theorem dX9_init_162 : decode cX9_init 162 = .ok (.aload_n 0, 1) := dq daX9_init_80 (i := 1) rfl
theorem dX9_init_163 : decode cX9_init 163 = .ok (.bipush 6, 2) := dq daX9_init_80 (i := 2) rfl
theorem dX9_init_165 : decode cX9_init 165 = .ok (.newarray .int, 2) := dq daX9_init_80 (i := 3) rfl
theorem dX9_init_167 : decode cX9_init 167 = .ok (.putfield 75, 3) := dq daX9_init_80 (i := 4) rfl
theorem dX9_init_170 : decode cX9_init 170 = .ok (.aload_n 0, 1) := dq daX9_init_80 (i := 5) rfl
theorem dX9_init_171 : decode cX9_init 171 = .ok (.bipush 120, 2) := dq daX9_init_80 (i := 6) rfl
theorem dX9_init_173 : decode cX9_init 173 = .ok (.newarray .int, 2) := dq daX9_init_80 (i := 7) rfl
theorem dX9_init_175 : decode cX9_init 175 = .ok (.putfield 78, 3) := dq daX9_init_80 (i := 8) rfl
theorem dX9_init_178 : decode cX9_init 178 = .ok (.aload_n 0, 1) := dq daX9_init_80 (i := 9) rfl
theorem dX9_init_179 : decode cX9_init 179 = .ok (.bipush 16, 2) := dq daX9_init_80 (i := 10) rfl
theorem dX9_init_181 : decode cX9_init 181 = .ok (.newarray .int, 2) := dq daX9_init_80 (i := 11) rfl
theorem dX9_init_183 : decode cX9_init 183 = .ok (.putfield 81, 3) := dq daX9_init_80 (i := 12) rfl
theorem dX9_init_186 : decode cX9_init 186 = .ok (.return_, 1) := dq daX9_init_80 (i := 13) rfl
theorem daX9_in_0 : dchk cX9_in [(0, .lload_n 0, 1), (1, .lload_n 2, 1), (2, .lcmp, 1), (3, .ifCond .lt 14, 3), (6, .lload_n 0, 1), (7, .lload 4, 2), (9, .lcmp, 1), (10, .ifCond .gt 7, 3), (13, .iconst 1, 1), (14, .goto 4, 3), (17, .iconst 0, 1), (18, .ireturn, 1)] = true := by decide +kernel
theorem dX9_in_0 : decode cX9_in 0 = .ok (.lload_n 0, 1) := dq daX9_in_0 (i := 0) rfl
theorem dX9_in_1 : decode cX9_in 1 = .ok (.lload_n 2, 1) := dq daX9_in_0 (i := 1) rfl
theorem dX9_in_2 : decode cX9_in 2 = .ok (.lcmp, 1) := dq daX9_in_0 (i := 2) rfl
theorem dX9_in_3 : decode cX9_in 3 = .ok (.ifCond .lt 14, 3) := dq daX9_in_0 (i := 3) rfl
theorem dX9_in_6 : decode cX9_in 6 = .ok (.lload_n 0, 1) := dq daX9_in_0 (i := 4) rfl
theorem dX9_in_7 : decode cX9_in 7 = .ok (.lload 4, 2) := dq daX9_in_0 (i := 5) rfl
theorem dX9_in_9 : decode cX9_in 9 = .ok (.lcmp, 1) := dq daX9_in_0 (i := 6) rfl
theorem dX9_in_10 : decode cX9_in 10 = .ok (.ifCond .gt 7, 3) := dq daX9_in_0 (i := 7) rfl
theorem dX9_in_13 : decode cX9_in 13 = .ok (.iconst 1, 1) := dq daX9_in_0 (i := 8) rfl
theorem dX9_in_14 : decode cX9_in 14 = .ok (.goto 4, 3) := dq daX9_in_0 (i := 9) rfl
theorem dX9_in_17 : decode cX9_in 17 = .ok (.iconst 0, 1) := dq daX9_in_0 (i := 10) rfl
theorem dX9_in_18 : decode cX9_in 18 = .ok (.ireturn, 1) := dq daX9_in_0 (i := 11) rfl
theorem daX9_common_0 : dchk cX9_common [(0, .lload_n 0, 1), (1, .lconst 0, 1), (2, .lcmp, 1), (3, .ifCond .ge 8, 3), (6, .lload_n 0, 1), (7, .lneg, 1), (8, .goto 4, 3), (11, .lload_n 0, 1), (12, .lstore 4, 2), (14, .lload_n 2, 1), (15, .lconst 0, 1), (16, .lcmp, 1), (17, .ifCond .ge 8, 3), (20, .lload_n 2, 1), (21, .lneg, 1), (22, .goto 4, 3), (25, .lload_n 2, 1), (26, .lstore 6, 2), (28, .lload 6, 2), (30, .lconst 0, 1), (31, .lcmp, 1), (32, .ifCond .eq 21, 3), (35, .lload 4, 2), (37, .lload 6, 2), (39, .lrem, 1), (40, .lstore 8, 2), (42, .lload 6, 2), (44, .lstore 4, 2), (46, .lload 8, 2), (48, .lstore 6, 2), (50, .goto (-22), 3), (53, .lload 4, 2), (55, .lreturn, 1)] = true := by decide +kernel
theorem dX9_common_0 : decode cX9_common 0 = .ok (.lload_n 0, 1) := dq daX9_common_0 (i := 0) rfl
theorem dX9_common_1 : decode cX9_common 1 = .ok (.lconst 0, 1) := dq daX9_common_0 (i := 1) rfl
theorem dX9_common_2 : decode cX9_common 2 = .ok (.lcmp, 1) := dq daX9_common_0 (i := 2) rfl
theorem dX9_common_3 : decode cX9_common 3 = .ok (.ifCond .ge 8, 3) := dq daX9_common_0 (i := 3) rfl
theorem dX9_common_6 : decode cX9_common 6 = .ok (.lload_n 0, 1) := dq daX9_common_0 (i := 4) rfl
theorem dX9_common_7 : decode cX9_common 7 = .ok (.lneg, 1) := dq daX9_common_0 (i := 5) rfl
theorem dX9_common_8 : decode cX9_common 8 = .ok (.goto 4, 3) := dq daX9_common_0 (i := 6) rfl
theorem dX9_common_11 : decode cX9_common 11 = .ok (.lload_n 0, 1) := dq daX9_common_0 (i := 7) rfl
theorem dX9_common_12 : decode cX9_common 12 = .ok (.lstore 4, 2) := dq daX9_common_0 (i := 8) rfl
theorem dX9_common_14 : decode cX9_common 14 = .ok (.lload_n 2, 1) := dq daX9_common_0 (i := 9) rfl
theorem dX9_common_15 : decode cX9_common 15 = .ok (.lconst 0, 1) := dq daX9_common_0 (i := 10) rfl
theorem dX9_common_16 : decode cX9_common 16 = .ok (.lcmp, 1) := dq daX9_common_0 (i := 11) rfl
theorem dX9_common_17 : decode cX9_common 17 = .ok (.ifCond .ge 8, 3) := dq daX9_common_0 (i := 12) rfl
theorem dX9_common_20 : decode cX9_common 20 = .ok (.lload_n 2, 1) := dq daX9_common_0 (i := 13) rfl
theorem dX9_common_21 : decode cX9_common 21 = .ok (.lneg, 1) := dq daX9_common_0 (i := 14) rfl
theorem dX9_common_22 : decode cX9_common 22 = .ok (.goto 4, 3) := dq daX9_common_0 (i := 15) rfl
theorem dX9_common_25 : decode cX9_common 25 = .ok (.lload_n 2, 1) := dq daX9_common_0 (i := 16) rfl
theorem dX9_common_26 : decode cX9_common 26 = .ok (.lstore 6, 2) := dq daX9_common_0 (i := 17) rfl
theorem dX9_common_28 : decode cX9_common 28 = .ok (.lload 6, 2) := dq daX9_common_0 (i := 18) rfl
theorem dX9_common_30 : decode cX9_common 30 = .ok (.lconst 0, 1) := dq daX9_common_0 (i := 19) rfl
theorem dX9_common_31 : decode cX9_common 31 = .ok (.lcmp, 1) := dq daX9_common_0 (i := 20) rfl
theorem dX9_common_32 : decode cX9_common 32 = .ok (.ifCond .eq 21, 3) := dq daX9_common_0 (i := 21) rfl
theorem dX9_common_35 : decode cX9_common 35 = .ok (.lload 4, 2) := dq daX9_common_0 (i := 22) rfl
theorem dX9_common_37 : decode cX9_common 37 = .ok (.lload 6, 2) := dq daX9_common_0 (i := 23) rfl
theorem dX9_common_39 : decode cX9_common 39 = .ok (.lrem, 1) := dq daX9_common_0 (i := 24) rfl
theorem dX9_common_40 : decode cX9_common 40 = .ok (.lstore 8, 2) := dq daX9_common_0 (i := 25) rfl
theorem dX9_common_42 : decode cX9_common 42 = .ok (.lload 6, 2) := dq daX9_common_0 (i := 26) rfl
theorem dX9_common_44 : decode cX9_common 44 = .ok (.lstore 4, 2) := dq daX9_common_0 (i := 27) rfl
theorem dX9_common_46 : decode cX9_common 46 = .ok (.lload 8, 2) := dq daX9_common_0 (i := 28) rfl
theorem dX9_common_48 : decode cX9_common 48 = .ok (.lstore 6, 2) := dq daX9_common_0 (i := 29) rfl
theorem dX9_common_50 : decode cX9_common 50 = .ok (.goto (-22), 3) := dq daX9_common_0 (i := 30) rfl
theorem dX9_common_53 : decode cX9_common 53 = .ok (.lload 4, 2) := dq daX9_common_0 (i := 31) rfl
theorem dX9_common_55 : decode cX9_common 55 = .ok (.lreturn, 1) := dq daX9_common_0 (i := 32) rfl
theorem daX9_part_0 : dchk cX9_part [(0, .lload_n 0, 1), (1, .lload_n 2, 1), (2, .invokestatic 84, 3), (5, .lstore 5, 2), (7, .iload 4, 2), (9, .ifCond .ne 10, 3), (12, .lload_n 0, 1), (13, .lload 5, 2), (15, .ldiv, 1), (16, .goto 7, 3), (19, .lload_n 2, 1), (20, .lload 5, 2), (22, .ldiv, 1), (23, .lreturn, 1)] = true := by decide +kernel
theorem dX9_part_0 : decode cX9_part 0 = .ok (.lload_n 0, 1) := dq daX9_part_0 (i := 0) rfl
theorem dX9_part_1 : decode cX9_part 1 = .ok (.lload_n 2, 1) := dq daX9_part_0 (i := 1) rfl
theorem dX9_part_2 : decode cX9_part 2 = .ok (.invokestatic 84, 3) := dq daX9_part_0 (i := 2) rfl
theorem dX9_part_5 : decode cX9_part 5 = .ok (.lstore 5, 2) := dq daX9_part_0 (i := 3) rfl
theorem dX9_part_7 : decode cX9_part 7 = .ok (.iload 4, 2) := dq daX9_part_0 (i := 4) rfl
theorem dX9_part_9 : decode cX9_part 9 = .ok (.ifCond .ne 10, 3) := dq daX9_part_0 (i := 5) rfl
theorem dX9_part_12 : decode cX9_part 12 = .ok (.lload_n 0, 1) := dq daX9_part_0 (i := 6) rfl
theorem dX9_part_13 : decode cX9_part 13 = .ok (.lload 5, 2) := dq daX9_part_0 (i := 7) rfl
theorem dX9_part_15 : decode cX9_part 15 = .ok (.ldiv, 1) := dq daX9_part_0 (i := 8) rfl
theorem dX9_part_16 : decode cX9_part 16 = .ok (.goto 7, 3) := dq daX9_part_0 (i := 9) rfl
theorem dX9_part_19 : decode cX9_part 19 = .ok (.lload_n 2, 1) := dq daX9_part_0 (i := 10) rfl
theorem dX9_part_20 : decode cX9_part 20 = .ok (.lload 5, 2) := dq daX9_part_0 (i := 11) rfl
theorem dX9_part_22 : decode cX9_part 22 = .ok (.ldiv, 1) := dq daX9_part_0 (i := 12) rfl
theorem dX9_part_23 : decode cX9_part 23 = .ok (.lreturn, 1) := dq daX9_part_0 (i := 13) rfl
theorem daX9_bits_0 : dchk cX9_bits [(0, .iconst 0, 1), (1, .istore_n 1, 1), (2, .iconst 0, 1), (3, .istore_n 2, 1), (4, .iload_n 2, 1), (5, .bipush 6, 2), (7, .if_icmp .ge 17, 3), (10, .iload_n 1, 1), (11, .iload_n 0, 1), (12, .iload_n 2, 1), (13, .ishr, 1), (14, .iconst 1, 1), (15, .iand, 1), (16, .iadd, 1), (17, .istore_n 1, 1), (18, .iinc 2 1, 3), (21, .goto (-17), 3), (24, .iload_n 1, 1), (25, .ireturn, 1)] = true := by decide +kernel
theorem dX9_bits_0 : decode cX9_bits 0 = .ok (.iconst 0, 1) := dq daX9_bits_0 (i := 0) rfl
theorem dX9_bits_1 : decode cX9_bits 1 = .ok (.istore_n 1, 1) := dq daX9_bits_0 (i := 1) rfl
theorem dX9_bits_2 : decode cX9_bits 2 = .ok (.iconst 0, 1) := dq daX9_bits_0 (i := 2) rfl
theorem dX9_bits_3 : decode cX9_bits 3 = .ok (.istore_n 2, 1) := dq daX9_bits_0 (i := 3) rfl
theorem dX9_bits_4 : decode cX9_bits 4 = .ok (.iload_n 2, 1) := dq daX9_bits_0 (i := 4) rfl
theorem dX9_bits_5 : decode cX9_bits 5 = .ok (.bipush 6, 2) := dq daX9_bits_0 (i := 5) rfl
theorem dX9_bits_7 : decode cX9_bits 7 = .ok (.if_icmp .ge 17, 3) := dq daX9_bits_0 (i := 6) rfl
theorem dX9_bits_10 : decode cX9_bits 10 = .ok (.iload_n 1, 1) := dq daX9_bits_0 (i := 7) rfl
theorem dX9_bits_11 : decode cX9_bits 11 = .ok (.iload_n 0, 1) := dq daX9_bits_0 (i := 8) rfl
theorem dX9_bits_12 : decode cX9_bits 12 = .ok (.iload_n 2, 1) := dq daX9_bits_0 (i := 9) rfl
theorem dX9_bits_13 : decode cX9_bits 13 = .ok (.ishr, 1) := dq daX9_bits_0 (i := 10) rfl
theorem dX9_bits_14 : decode cX9_bits 14 = .ok (.iconst 1, 1) := dq daX9_bits_0 (i := 11) rfl
theorem dX9_bits_15 : decode cX9_bits 15 = .ok (.iand, 1) := dq daX9_bits_0 (i := 12) rfl
theorem dX9_bits_16 : decode cX9_bits 16 = .ok (.iadd, 1) := dq daX9_bits_0 (i := 13) rfl
theorem dX9_bits_17 : decode cX9_bits 17 = .ok (.istore_n 1, 1) := dq daX9_bits_0 (i := 14) rfl
theorem dX9_bits_18 : decode cX9_bits 18 = .ok (.iinc 2 1, 3) := dq daX9_bits_0 (i := 15) rfl
theorem dX9_bits_21 : decode cX9_bits 21 = .ok (.goto (-17), 3) := dq daX9_bits_0 (i := 16) rfl
theorem dX9_bits_24 : decode cX9_bits 24 = .ok (.iload_n 1, 1) := dq daX9_bits_0 (i := 17) rfl
theorem dX9_bits_25 : decode cX9_bits 25 = .ok (.ireturn, 1) := dq daX9_bits_0 (i := 18) rfl
theorem daX9_lays_0 : dchk cX9_lays [(0, .aload_n 1, 1), (1, .iload_n 2, 1), (2, .aload_n 0, 1), (3, .getfield 88, 3), (6, .iastore, 1), (7, .aload_n 1, 1), (8, .iload_n 2, 1), (9, .iconst 1, 1), (10, .iadd, 1), (11, .aload_n 0, 1), (12, .getfield 91, 3), (15, .iastore, 1), (16, .aload_n 1, 1), (17, .iload_n 2, 1), (18, .iconst 2, 1), (19, .iadd, 1), (20, .aload_n 0, 1), (21, .getfield 15, 3), (24, .iastore, 1), (25, .aload_n 1, 1), (26, .iload_n 2, 1), (27, .iconst 3, 1), (28, .iadd, 1), (29, .aload_n 0, 1), (30, .getfield 94, 3), (33, .iastore, 1), (34, .iconst 0, 1), (35, .istore_n 3, 1), (36, .iload_n 3, 1), (37, .bipush 8, 2), (39, .if_icmp .ge 34, 3), (42, .aload_n 1, 1), (43, .iload_n 2, 1), (44, .iconst 4, 1), (45, .iadd, 1), (46, .iload_n 3, 1), (47, .iadd, 1), (48, .iload_n 3, 1), (49, .aload_n 0, 1), (50, .getfield 91, 3)] = true := by decide +kernel
theorem dX9_lays_0 : decode cX9_lays 0 = .ok (.aload_n 1, 1) := dq daX9_lays_0 (i := 0) rfl
theorem dX9_lays_1 : decode cX9_lays 1 = .ok (.iload_n 2, 1) := dq daX9_lays_0 (i := 1) rfl
theorem dX9_lays_2 : decode cX9_lays 2 = .ok (.aload_n 0, 1) := dq daX9_lays_0 (i := 2) rfl
theorem dX9_lays_3 : decode cX9_lays 3 = .ok (.getfield 88, 3) := dq daX9_lays_0 (i := 3) rfl
theorem dX9_lays_6 : decode cX9_lays 6 = .ok (.iastore, 1) := dq daX9_lays_0 (i := 4) rfl
theorem dX9_lays_7 : decode cX9_lays 7 = .ok (.aload_n 1, 1) := dq daX9_lays_0 (i := 5) rfl
theorem dX9_lays_8 : decode cX9_lays 8 = .ok (.iload_n 2, 1) := dq daX9_lays_0 (i := 6) rfl
theorem dX9_lays_9 : decode cX9_lays 9 = .ok (.iconst 1, 1) := dq daX9_lays_0 (i := 7) rfl
theorem dX9_lays_10 : decode cX9_lays 10 = .ok (.iadd, 1) := dq daX9_lays_0 (i := 8) rfl
theorem dX9_lays_11 : decode cX9_lays 11 = .ok (.aload_n 0, 1) := dq daX9_lays_0 (i := 9) rfl
theorem dX9_lays_12 : decode cX9_lays 12 = .ok (.getfield 91, 3) := dq daX9_lays_0 (i := 10) rfl
theorem dX9_lays_15 : decode cX9_lays 15 = .ok (.iastore, 1) := dq daX9_lays_0 (i := 11) rfl
theorem dX9_lays_16 : decode cX9_lays 16 = .ok (.aload_n 1, 1) := dq daX9_lays_0 (i := 12) rfl
theorem dX9_lays_17 : decode cX9_lays 17 = .ok (.iload_n 2, 1) := dq daX9_lays_0 (i := 13) rfl
theorem dX9_lays_18 : decode cX9_lays 18 = .ok (.iconst 2, 1) := dq daX9_lays_0 (i := 14) rfl
theorem dX9_lays_19 : decode cX9_lays 19 = .ok (.iadd, 1) := dq daX9_lays_0 (i := 15) rfl
theorem dX9_lays_20 : decode cX9_lays 20 = .ok (.aload_n 0, 1) := dq daX9_lays_0 (i := 16) rfl
theorem dX9_lays_21 : decode cX9_lays 21 = .ok (.getfield 15, 3) := dq daX9_lays_0 (i := 17) rfl
theorem dX9_lays_24 : decode cX9_lays 24 = .ok (.iastore, 1) := dq daX9_lays_0 (i := 18) rfl
theorem dX9_lays_25 : decode cX9_lays 25 = .ok (.aload_n 1, 1) := dq daX9_lays_0 (i := 19) rfl
theorem dX9_lays_26 : decode cX9_lays 26 = .ok (.iload_n 2, 1) := dq daX9_lays_0 (i := 20) rfl
theorem dX9_lays_27 : decode cX9_lays 27 = .ok (.iconst 3, 1) := dq daX9_lays_0 (i := 21) rfl
theorem dX9_lays_28 : decode cX9_lays 28 = .ok (.iadd, 1) := dq daX9_lays_0 (i := 22) rfl
theorem dX9_lays_29 : decode cX9_lays 29 = .ok (.aload_n 0, 1) := dq daX9_lays_0 (i := 23) rfl
theorem dX9_lays_30 : decode cX9_lays 30 = .ok (.getfield 94, 3) := dq daX9_lays_0 (i := 24) rfl
theorem dX9_lays_33 : decode cX9_lays 33 = .ok (.iastore, 1) := dq daX9_lays_0 (i := 25) rfl
theorem dX9_lays_34 : decode cX9_lays 34 = .ok (.iconst 0, 1) := dq daX9_lays_0 (i := 26) rfl
theorem dX9_lays_35 : decode cX9_lays 35 = .ok (.istore_n 3, 1) := dq daX9_lays_0 (i := 27) rfl
theorem dX9_lays_36 : decode cX9_lays 36 = .ok (.iload_n 3, 1) := dq daX9_lays_0 (i := 28) rfl
theorem dX9_lays_37 : decode cX9_lays 37 = .ok (.bipush 8, 2) := dq daX9_lays_0 (i := 29) rfl
theorem dX9_lays_39 : decode cX9_lays 39 = .ok (.if_icmp .ge 34, 3) := dq daX9_lays_0 (i := 30) rfl
theorem dX9_lays_42 : decode cX9_lays 42 = .ok (.aload_n 1, 1) := dq daX9_lays_0 (i := 31) rfl
theorem dX9_lays_43 : decode cX9_lays 43 = .ok (.iload_n 2, 1) := dq daX9_lays_0 (i := 32) rfl
theorem dX9_lays_44 : decode cX9_lays 44 = .ok (.iconst 4, 1) := dq daX9_lays_0 (i := 33) rfl
theorem dX9_lays_45 : decode cX9_lays 45 = .ok (.iadd, 1) := dq daX9_lays_0 (i := 34) rfl
theorem dX9_lays_46 : decode cX9_lays 46 = .ok (.iload_n 3, 1) := dq daX9_lays_0 (i := 35) rfl
theorem dX9_lays_47 : decode cX9_lays 47 = .ok (.iadd, 1) := dq daX9_lays_0 (i := 36) rfl
theorem dX9_lays_48 : decode cX9_lays 48 = .ok (.iload_n 3, 1) := dq daX9_lays_0 (i := 37) rfl
theorem dX9_lays_49 : decode cX9_lays 49 = .ok (.aload_n 0, 1) := dq daX9_lays_0 (i := 38) rfl
theorem dX9_lays_50 : decode cX9_lays 50 = .ok (.getfield 91, 3) := dq daX9_lays_0 (i := 39) rfl
theorem daX9_lays_40 : dchk cX9_lays [(53, .if_icmp .ge 12, 3), (56, .aload_n 0, 1), (57, .getfield 11, 3), (60, .iload_n 3, 1), (61, .iaload, 1), (62, .goto 4, 3), (65, .iconst 0, 1), (66, .iastore, 1), (67, .iinc 3 1, 3), (70, .goto (-34), 3), (73, .iconst 0, 1), (74, .istore_n 3, 1), (75, .iload_n 3, 1), (76, .iconst 3, 1), (77, .if_icmp .ge 35, 3), (80, .aload_n 1, 1), (81, .iload_n 2, 1), (82, .bipush 12, 2), (84, .iadd, 1), (85, .iload_n 3, 1), (86, .iadd, 1), (87, .iload_n 3, 1), (88, .aload_n 0, 1), (89, .getfield 94, 3), (92, .if_icmp .ge 12, 3), (95, .aload_n 0, 1), (96, .getfield 19, 3), (99, .iload_n 3, 1), (100, .iaload, 1), (101, .goto 4, 3), (104, .iconst 0, 1), (105, .iastore, 1), (106, .iinc 3 1, 3), (109, .goto (-34), 3), (112, .aload_n 1, 1), (113, .iload_n 2, 1), (114, .bipush 15, 2), (116, .iadd, 1), (117, .iconst 0, 1), (118, .iastore, 1)] = true := by decide +kernel
theorem dX9_lays_53 : decode cX9_lays 53 = .ok (.if_icmp .ge 12, 3) := dq daX9_lays_40 (i := 0) rfl
theorem dX9_lays_56 : decode cX9_lays 56 = .ok (.aload_n 0, 1) := dq daX9_lays_40 (i := 1) rfl
theorem dX9_lays_57 : decode cX9_lays 57 = .ok (.getfield 11, 3) := dq daX9_lays_40 (i := 2) rfl
theorem dX9_lays_60 : decode cX9_lays 60 = .ok (.iload_n 3, 1) := dq daX9_lays_40 (i := 3) rfl
theorem dX9_lays_61 : decode cX9_lays 61 = .ok (.iaload, 1) := dq daX9_lays_40 (i := 4) rfl
theorem dX9_lays_62 : decode cX9_lays 62 = .ok (.goto 4, 3) := dq daX9_lays_40 (i := 5) rfl
theorem dX9_lays_65 : decode cX9_lays 65 = .ok (.iconst 0, 1) := dq daX9_lays_40 (i := 6) rfl
theorem dX9_lays_66 : decode cX9_lays 66 = .ok (.iastore, 1) := dq daX9_lays_40 (i := 7) rfl
theorem dX9_lays_67 : decode cX9_lays 67 = .ok (.iinc 3 1, 3) := dq daX9_lays_40 (i := 8) rfl
theorem dX9_lays_70 : decode cX9_lays 70 = .ok (.goto (-34), 3) := dq daX9_lays_40 (i := 9) rfl
theorem dX9_lays_73 : decode cX9_lays 73 = .ok (.iconst 0, 1) := dq daX9_lays_40 (i := 10) rfl
theorem dX9_lays_74 : decode cX9_lays 74 = .ok (.istore_n 3, 1) := dq daX9_lays_40 (i := 11) rfl
theorem dX9_lays_75 : decode cX9_lays 75 = .ok (.iload_n 3, 1) := dq daX9_lays_40 (i := 12) rfl
theorem dX9_lays_76 : decode cX9_lays 76 = .ok (.iconst 3, 1) := dq daX9_lays_40 (i := 13) rfl
theorem dX9_lays_77 : decode cX9_lays 77 = .ok (.if_icmp .ge 35, 3) := dq daX9_lays_40 (i := 14) rfl
theorem dX9_lays_80 : decode cX9_lays 80 = .ok (.aload_n 1, 1) := dq daX9_lays_40 (i := 15) rfl
theorem dX9_lays_81 : decode cX9_lays 81 = .ok (.iload_n 2, 1) := dq daX9_lays_40 (i := 16) rfl
theorem dX9_lays_82 : decode cX9_lays 82 = .ok (.bipush 12, 2) := dq daX9_lays_40 (i := 17) rfl
theorem dX9_lays_84 : decode cX9_lays 84 = .ok (.iadd, 1) := dq daX9_lays_40 (i := 18) rfl
theorem dX9_lays_85 : decode cX9_lays 85 = .ok (.iload_n 3, 1) := dq daX9_lays_40 (i := 19) rfl
theorem dX9_lays_86 : decode cX9_lays 86 = .ok (.iadd, 1) := dq daX9_lays_40 (i := 20) rfl
theorem dX9_lays_87 : decode cX9_lays 87 = .ok (.iload_n 3, 1) := dq daX9_lays_40 (i := 21) rfl
theorem dX9_lays_88 : decode cX9_lays 88 = .ok (.aload_n 0, 1) := dq daX9_lays_40 (i := 22) rfl
theorem dX9_lays_89 : decode cX9_lays 89 = .ok (.getfield 94, 3) := dq daX9_lays_40 (i := 23) rfl
theorem dX9_lays_92 : decode cX9_lays 92 = .ok (.if_icmp .ge 12, 3) := dq daX9_lays_40 (i := 24) rfl
theorem dX9_lays_95 : decode cX9_lays 95 = .ok (.aload_n 0, 1) := dq daX9_lays_40 (i := 25) rfl
theorem dX9_lays_96 : decode cX9_lays 96 = .ok (.getfield 19, 3) := dq daX9_lays_40 (i := 26) rfl
theorem dX9_lays_99 : decode cX9_lays 99 = .ok (.iload_n 3, 1) := dq daX9_lays_40 (i := 27) rfl
theorem dX9_lays_100 : decode cX9_lays 100 = .ok (.iaload, 1) := dq daX9_lays_40 (i := 28) rfl
theorem dX9_lays_101 : decode cX9_lays 101 = .ok (.goto 4, 3) := dq daX9_lays_40 (i := 29) rfl
theorem dX9_lays_104 : decode cX9_lays 104 = .ok (.iconst 0, 1) := dq daX9_lays_40 (i := 30) rfl
theorem dX9_lays_105 : decode cX9_lays 105 = .ok (.iastore, 1) := dq daX9_lays_40 (i := 31) rfl
theorem dX9_lays_106 : decode cX9_lays 106 = .ok (.iinc 3 1, 3) := dq daX9_lays_40 (i := 32) rfl
theorem dX9_lays_109 : decode cX9_lays 109 = .ok (.goto (-34), 3) := dq daX9_lays_40 (i := 33) rfl
theorem dX9_lays_112 : decode cX9_lays 112 = .ok (.aload_n 1, 1) := dq daX9_lays_40 (i := 34) rfl
theorem dX9_lays_113 : decode cX9_lays 113 = .ok (.iload_n 2, 1) := dq daX9_lays_40 (i := 35) rfl
theorem dX9_lays_114 : decode cX9_lays 114 = .ok (.bipush 15, 2) := dq daX9_lays_40 (i := 36) rfl
theorem dX9_lays_116 : decode cX9_lays 116 = .ok (.iadd, 1) := dq daX9_lays_40 (i := 37) rfl
theorem dX9_lays_117 : decode cX9_lays 117 = .ok (.iconst 0, 1) := dq daX9_lays_40 (i := 38) rfl
theorem dX9_lays_118 : decode cX9_lays 118 = .ok (.iastore, 1) := dq daX9_lays_40 (i := 39) rfl
theorem daX9_lays_80 : dchk cX9_lays [(119, .return_, 1)] = true := by decide +kernel
theorem dX9_lays_119 : decode cX9_lays 119 = .ok (.return_, 1) := dq daX9_lays_80 (i := 0) rfl
theorem daX9_takes_0 : dchk cX9_takes [(0, .aload_n 0, 1), (1, .aload_n 1, 1), (2, .iload_n 2, 1), (3, .iaload, 1), (4, .putfield 88, 3), (7, .aload_n 0, 1), (8, .aload_n 1, 1), (9, .iload_n 2, 1), (10, .iconst 1, 1), (11, .iadd, 1), (12, .iaload, 1), (13, .putfield 91, 3), (16, .aload_n 0, 1), (17, .aload_n 1, 1), (18, .iload_n 2, 1), (19, .iconst 2, 1), (20, .iadd, 1), (21, .iaload, 1), (22, .putfield 15, 3), (25, .aload_n 0, 1), (26, .aload_n 1, 1), (27, .iload_n 2, 1), (28, .iconst 3, 1), (29, .iadd, 1), (30, .iaload, 1), (31, .putfield 94, 3), (34, .iconst 0, 1), (35, .istore_n 3, 1), (36, .iload_n 3, 1), (37, .bipush 8, 2), (39, .if_icmp .ge 22, 3), (42, .aload_n 0, 1), (43, .getfield 11, 3), (46, .iload_n 3, 1), (47, .aload_n 1, 1), (48, .iload_n 2, 1), (49, .iconst 4, 1), (50, .iadd, 1), (51, .iload_n 3, 1), (52, .iadd, 1)] = true := by decide +kernel
theorem dX9_takes_0 : decode cX9_takes 0 = .ok (.aload_n 0, 1) := dq daX9_takes_0 (i := 0) rfl
theorem dX9_takes_1 : decode cX9_takes 1 = .ok (.aload_n 1, 1) := dq daX9_takes_0 (i := 1) rfl
theorem dX9_takes_2 : decode cX9_takes 2 = .ok (.iload_n 2, 1) := dq daX9_takes_0 (i := 2) rfl
theorem dX9_takes_3 : decode cX9_takes 3 = .ok (.iaload, 1) := dq daX9_takes_0 (i := 3) rfl
theorem dX9_takes_4 : decode cX9_takes 4 = .ok (.putfield 88, 3) := dq daX9_takes_0 (i := 4) rfl
theorem dX9_takes_7 : decode cX9_takes 7 = .ok (.aload_n 0, 1) := dq daX9_takes_0 (i := 5) rfl
theorem dX9_takes_8 : decode cX9_takes 8 = .ok (.aload_n 1, 1) := dq daX9_takes_0 (i := 6) rfl
theorem dX9_takes_9 : decode cX9_takes 9 = .ok (.iload_n 2, 1) := dq daX9_takes_0 (i := 7) rfl
theorem dX9_takes_10 : decode cX9_takes 10 = .ok (.iconst 1, 1) := dq daX9_takes_0 (i := 8) rfl
theorem dX9_takes_11 : decode cX9_takes 11 = .ok (.iadd, 1) := dq daX9_takes_0 (i := 9) rfl
theorem dX9_takes_12 : decode cX9_takes 12 = .ok (.iaload, 1) := dq daX9_takes_0 (i := 10) rfl
theorem dX9_takes_13 : decode cX9_takes 13 = .ok (.putfield 91, 3) := dq daX9_takes_0 (i := 11) rfl
theorem dX9_takes_16 : decode cX9_takes 16 = .ok (.aload_n 0, 1) := dq daX9_takes_0 (i := 12) rfl
theorem dX9_takes_17 : decode cX9_takes 17 = .ok (.aload_n 1, 1) := dq daX9_takes_0 (i := 13) rfl
theorem dX9_takes_18 : decode cX9_takes 18 = .ok (.iload_n 2, 1) := dq daX9_takes_0 (i := 14) rfl
theorem dX9_takes_19 : decode cX9_takes 19 = .ok (.iconst 2, 1) := dq daX9_takes_0 (i := 15) rfl
theorem dX9_takes_20 : decode cX9_takes 20 = .ok (.iadd, 1) := dq daX9_takes_0 (i := 16) rfl
theorem dX9_takes_21 : decode cX9_takes 21 = .ok (.iaload, 1) := dq daX9_takes_0 (i := 17) rfl
theorem dX9_takes_22 : decode cX9_takes 22 = .ok (.putfield 15, 3) := dq daX9_takes_0 (i := 18) rfl
theorem dX9_takes_25 : decode cX9_takes 25 = .ok (.aload_n 0, 1) := dq daX9_takes_0 (i := 19) rfl
theorem dX9_takes_26 : decode cX9_takes 26 = .ok (.aload_n 1, 1) := dq daX9_takes_0 (i := 20) rfl
theorem dX9_takes_27 : decode cX9_takes 27 = .ok (.iload_n 2, 1) := dq daX9_takes_0 (i := 21) rfl
theorem dX9_takes_28 : decode cX9_takes 28 = .ok (.iconst 3, 1) := dq daX9_takes_0 (i := 22) rfl
theorem dX9_takes_29 : decode cX9_takes 29 = .ok (.iadd, 1) := dq daX9_takes_0 (i := 23) rfl
theorem dX9_takes_30 : decode cX9_takes 30 = .ok (.iaload, 1) := dq daX9_takes_0 (i := 24) rfl
theorem dX9_takes_31 : decode cX9_takes 31 = .ok (.putfield 94, 3) := dq daX9_takes_0 (i := 25) rfl
theorem dX9_takes_34 : decode cX9_takes 34 = .ok (.iconst 0, 1) := dq daX9_takes_0 (i := 26) rfl
theorem dX9_takes_35 : decode cX9_takes 35 = .ok (.istore_n 3, 1) := dq daX9_takes_0 (i := 27) rfl
theorem dX9_takes_36 : decode cX9_takes 36 = .ok (.iload_n 3, 1) := dq daX9_takes_0 (i := 28) rfl
theorem dX9_takes_37 : decode cX9_takes 37 = .ok (.bipush 8, 2) := dq daX9_takes_0 (i := 29) rfl
theorem dX9_takes_39 : decode cX9_takes 39 = .ok (.if_icmp .ge 22, 3) := dq daX9_takes_0 (i := 30) rfl
theorem dX9_takes_42 : decode cX9_takes 42 = .ok (.aload_n 0, 1) := dq daX9_takes_0 (i := 31) rfl
theorem dX9_takes_43 : decode cX9_takes 43 = .ok (.getfield 11, 3) := dq daX9_takes_0 (i := 32) rfl
theorem dX9_takes_46 : decode cX9_takes 46 = .ok (.iload_n 3, 1) := dq daX9_takes_0 (i := 33) rfl
theorem dX9_takes_47 : decode cX9_takes 47 = .ok (.aload_n 1, 1) := dq daX9_takes_0 (i := 34) rfl
theorem dX9_takes_48 : decode cX9_takes 48 = .ok (.iload_n 2, 1) := dq daX9_takes_0 (i := 35) rfl
theorem dX9_takes_49 : decode cX9_takes 49 = .ok (.iconst 4, 1) := dq daX9_takes_0 (i := 36) rfl
theorem dX9_takes_50 : decode cX9_takes 50 = .ok (.iadd, 1) := dq daX9_takes_0 (i := 37) rfl
theorem dX9_takes_51 : decode cX9_takes 51 = .ok (.iload_n 3, 1) := dq daX9_takes_0 (i := 38) rfl
theorem dX9_takes_52 : decode cX9_takes 52 = .ok (.iadd, 1) := dq daX9_takes_0 (i := 39) rfl
theorem daX9_takes_40 : dchk cX9_takes [(53, .iaload, 1), (54, .iastore, 1), (55, .iinc 3 1, 3), (58, .goto (-22), 3), (61, .iconst 0, 1), (62, .istore_n 3, 1), (63, .iload_n 3, 1), (64, .iconst 3, 1), (65, .if_icmp .ge 23, 3), (68, .aload_n 0, 1), (69, .getfield 19, 3), (72, .iload_n 3, 1), (73, .aload_n 1, 1), (74, .iload_n 2, 1), (75, .bipush 12, 2), (77, .iadd, 1), (78, .iload_n 3, 1), (79, .iadd, 1), (80, .iaload, 1), (81, .iastore, 1), (82, .iinc 3 1, 3), (85, .goto (-22), 3), (88, .return_, 1)] = true := by decide +kernel
theorem dX9_takes_53 : decode cX9_takes 53 = .ok (.iaload, 1) := dq daX9_takes_40 (i := 0) rfl
theorem dX9_takes_54 : decode cX9_takes 54 = .ok (.iastore, 1) := dq daX9_takes_40 (i := 1) rfl
theorem dX9_takes_55 : decode cX9_takes 55 = .ok (.iinc 3 1, 3) := dq daX9_takes_40 (i := 2) rfl
theorem dX9_takes_58 : decode cX9_takes 58 = .ok (.goto (-22), 3) := dq daX9_takes_40 (i := 3) rfl
theorem dX9_takes_61 : decode cX9_takes 61 = .ok (.iconst 0, 1) := dq daX9_takes_40 (i := 4) rfl
theorem dX9_takes_62 : decode cX9_takes 62 = .ok (.istore_n 3, 1) := dq daX9_takes_40 (i := 5) rfl
theorem dX9_takes_63 : decode cX9_takes 63 = .ok (.iload_n 3, 1) := dq daX9_takes_40 (i := 6) rfl
theorem dX9_takes_64 : decode cX9_takes 64 = .ok (.iconst 3, 1) := dq daX9_takes_40 (i := 7) rfl
theorem dX9_takes_65 : decode cX9_takes 65 = .ok (.if_icmp .ge 23, 3) := dq daX9_takes_40 (i := 8) rfl
theorem dX9_takes_68 : decode cX9_takes 68 = .ok (.aload_n 0, 1) := dq daX9_takes_40 (i := 9) rfl
theorem dX9_takes_69 : decode cX9_takes 69 = .ok (.getfield 19, 3) := dq daX9_takes_40 (i := 10) rfl
theorem dX9_takes_72 : decode cX9_takes 72 = .ok (.iload_n 3, 1) := dq daX9_takes_40 (i := 11) rfl
theorem dX9_takes_73 : decode cX9_takes 73 = .ok (.aload_n 1, 1) := dq daX9_takes_40 (i := 12) rfl
theorem dX9_takes_74 : decode cX9_takes 74 = .ok (.iload_n 2, 1) := dq daX9_takes_40 (i := 13) rfl
theorem dX9_takes_75 : decode cX9_takes 75 = .ok (.bipush 12, 2) := dq daX9_takes_40 (i := 14) rfl
theorem dX9_takes_77 : decode cX9_takes 77 = .ok (.iadd, 1) := dq daX9_takes_40 (i := 15) rfl
theorem dX9_takes_78 : decode cX9_takes 78 = .ok (.iload_n 3, 1) := dq daX9_takes_40 (i := 16) rfl
theorem dX9_takes_79 : decode cX9_takes 79 = .ok (.iadd, 1) := dq daX9_takes_40 (i := 17) rfl
theorem dX9_takes_80 : decode cX9_takes 80 = .ok (.iaload, 1) := dq daX9_takes_40 (i := 18) rfl
theorem dX9_takes_81 : decode cX9_takes 81 = .ok (.iastore, 1) := dq daX9_takes_40 (i := 19) rfl
theorem dX9_takes_82 : decode cX9_takes 82 = .ok (.iinc 3 1, 3) := dq daX9_takes_40 (i := 20) rfl
theorem dX9_takes_85 : decode cX9_takes 85 = .ok (.goto (-22), 3) := dq daX9_takes_40 (i := 21) rfl
theorem dX9_takes_88 : decode cX9_takes 88 = .ok (.return_, 1) := dq daX9_takes_40 (i := 22) rfl
theorem daX9_begins_0 : dchk cX9_begins [(0, .aload_n 0, 1), (1, .aload_n 0, 1), (2, .getfield 28, 3), (5, .iconst 0, 1), (6, .invokevirtual 97, 3), (9, .return_, 1)] = true := by decide +kernel
theorem dX9_begins_0 : decode cX9_begins 0 = .ok (.aload_n 0, 1) := dq daX9_begins_0 (i := 0) rfl
theorem dX9_begins_1 : decode cX9_begins 1 = .ok (.aload_n 0, 1) := dq daX9_begins_0 (i := 1) rfl
theorem dX9_begins_2 : decode cX9_begins 2 = .ok (.getfield 28, 3) := dq daX9_begins_0 (i := 2) rfl
theorem dX9_begins_5 : decode cX9_begins 5 = .ok (.iconst 0, 1) := dq daX9_begins_0 (i := 3) rfl
theorem dX9_begins_6 : decode cX9_begins 6 = .ok (.invokevirtual 97, 3) := dq daX9_begins_0 (i := 4) rfl
theorem dX9_begins_9 : decode cX9_begins 9 = .ok (.return_, 1) := dq daX9_begins_0 (i := 5) rfl
theorem daX9_ends_0 : dchk cX9_ends [(0, .aload_n 0, 1), (1, .aload_n 0, 1), (2, .getfield 25, 3), (5, .sipush 128, 3), (8, .invokevirtual 97, 3), (11, .iconst 1, 1), (12, .istore_n 1, 1), (13, .iconst 0, 1), (14, .istore_n 2, 1), (15, .iload_n 2, 1), (16, .bipush 16, 2), (18, .if_icmp .ge 38, 3), (21, .iload_n 1, 1), (22, .ifCond .eq 26, 3), (25, .aload_n 0, 1), (26, .getfield 25, 3), (29, .sipush 128, 3), (32, .iload_n 2, 1), (33, .iadd, 1), (34, .iaload, 1), (35, .aload_n 0, 1), (36, .getfield 28, 3), (39, .iload_n 2, 1), (40, .iaload, 1), (41, .if_icmp .ne 7, 3), (44, .iconst 1, 1), (45, .goto 4, 3), (48, .iconst 0, 1), (49, .istore_n 1, 1), (50, .iinc 2 1, 3), (53, .goto (-38), 3), (56, .iload_n 1, 1), (57, .ifCond .eq 4, 3), (60, .return_, 1), (61, .aload_n 0, 1), (62, .getfield 101, 3), (65, .bipush 8, 2), (67, .if_icmp .ne 42, 3), (70, .iconst 0, 1), (71, .istore_n 2, 1)] = true := by decide +kernel
theorem dX9_ends_0 : decode cX9_ends 0 = .ok (.aload_n 0, 1) := dq daX9_ends_0 (i := 0) rfl
theorem dX9_ends_1 : decode cX9_ends 1 = .ok (.aload_n 0, 1) := dq daX9_ends_0 (i := 1) rfl
theorem dX9_ends_2 : decode cX9_ends 2 = .ok (.getfield 25, 3) := dq daX9_ends_0 (i := 2) rfl
theorem dX9_ends_5 : decode cX9_ends 5 = .ok (.sipush 128, 3) := dq daX9_ends_0 (i := 3) rfl
theorem dX9_ends_8 : decode cX9_ends 8 = .ok (.invokevirtual 97, 3) := dq daX9_ends_0 (i := 4) rfl
theorem dX9_ends_11 : decode cX9_ends 11 = .ok (.iconst 1, 1) := dq daX9_ends_0 (i := 5) rfl
theorem dX9_ends_12 : decode cX9_ends 12 = .ok (.istore_n 1, 1) := dq daX9_ends_0 (i := 6) rfl
theorem dX9_ends_13 : decode cX9_ends 13 = .ok (.iconst 0, 1) := dq daX9_ends_0 (i := 7) rfl
theorem dX9_ends_14 : decode cX9_ends 14 = .ok (.istore_n 2, 1) := dq daX9_ends_0 (i := 8) rfl
theorem dX9_ends_15 : decode cX9_ends 15 = .ok (.iload_n 2, 1) := dq daX9_ends_0 (i := 9) rfl
theorem dX9_ends_16 : decode cX9_ends 16 = .ok (.bipush 16, 2) := dq daX9_ends_0 (i := 10) rfl
theorem dX9_ends_18 : decode cX9_ends 18 = .ok (.if_icmp .ge 38, 3) := dq daX9_ends_0 (i := 11) rfl
theorem dX9_ends_21 : decode cX9_ends 21 = .ok (.iload_n 1, 1) := dq daX9_ends_0 (i := 12) rfl
theorem dX9_ends_22 : decode cX9_ends 22 = .ok (.ifCond .eq 26, 3) := dq daX9_ends_0 (i := 13) rfl
theorem dX9_ends_25 : decode cX9_ends 25 = .ok (.aload_n 0, 1) := dq daX9_ends_0 (i := 14) rfl
theorem dX9_ends_26 : decode cX9_ends 26 = .ok (.getfield 25, 3) := dq daX9_ends_0 (i := 15) rfl
theorem dX9_ends_29 : decode cX9_ends 29 = .ok (.sipush 128, 3) := dq daX9_ends_0 (i := 16) rfl
theorem dX9_ends_32 : decode cX9_ends 32 = .ok (.iload_n 2, 1) := dq daX9_ends_0 (i := 17) rfl
theorem dX9_ends_33 : decode cX9_ends 33 = .ok (.iadd, 1) := dq daX9_ends_0 (i := 18) rfl
theorem dX9_ends_34 : decode cX9_ends 34 = .ok (.iaload, 1) := dq daX9_ends_0 (i := 19) rfl
theorem dX9_ends_35 : decode cX9_ends 35 = .ok (.aload_n 0, 1) := dq daX9_ends_0 (i := 20) rfl
theorem dX9_ends_36 : decode cX9_ends 36 = .ok (.getfield 28, 3) := dq daX9_ends_0 (i := 21) rfl
theorem dX9_ends_39 : decode cX9_ends 39 = .ok (.iload_n 2, 1) := dq daX9_ends_0 (i := 22) rfl
theorem dX9_ends_40 : decode cX9_ends 40 = .ok (.iaload, 1) := dq daX9_ends_0 (i := 23) rfl
theorem dX9_ends_41 : decode cX9_ends 41 = .ok (.if_icmp .ne 7, 3) := dq daX9_ends_0 (i := 24) rfl
theorem dX9_ends_44 : decode cX9_ends 44 = .ok (.iconst 1, 1) := dq daX9_ends_0 (i := 25) rfl
theorem dX9_ends_45 : decode cX9_ends 45 = .ok (.goto 4, 3) := dq daX9_ends_0 (i := 26) rfl
theorem dX9_ends_48 : decode cX9_ends 48 = .ok (.iconst 0, 1) := dq daX9_ends_0 (i := 27) rfl
theorem dX9_ends_49 : decode cX9_ends 49 = .ok (.istore_n 1, 1) := dq daX9_ends_0 (i := 28) rfl
theorem dX9_ends_50 : decode cX9_ends 50 = .ok (.iinc 2 1, 3) := dq daX9_ends_0 (i := 29) rfl
theorem dX9_ends_53 : decode cX9_ends 53 = .ok (.goto (-38), 3) := dq daX9_ends_0 (i := 30) rfl
theorem dX9_ends_56 : decode cX9_ends 56 = .ok (.iload_n 1, 1) := dq daX9_ends_0 (i := 31) rfl
theorem dX9_ends_57 : decode cX9_ends 57 = .ok (.ifCond .eq 4, 3) := dq daX9_ends_0 (i := 32) rfl
theorem dX9_ends_60 : decode cX9_ends 60 = .ok (.return_, 1) := dq daX9_ends_0 (i := 33) rfl
theorem dX9_ends_61 : decode cX9_ends 61 = .ok (.aload_n 0, 1) := dq daX9_ends_0 (i := 34) rfl
theorem dX9_ends_62 : decode cX9_ends 62 = .ok (.getfield 101, 3) := dq daX9_ends_0 (i := 35) rfl
theorem dX9_ends_65 : decode cX9_ends 65 = .ok (.bipush 8, 2) := dq daX9_ends_0 (i := 36) rfl
theorem dX9_ends_67 : decode cX9_ends 67 = .ok (.if_icmp .ne 42, 3) := dq daX9_ends_0 (i := 37) rfl
theorem dX9_ends_70 : decode cX9_ends 70 = .ok (.iconst 0, 1) := dq daX9_ends_0 (i := 38) rfl
theorem dX9_ends_71 : decode cX9_ends 71 = .ok (.istore_n 2, 1) := dq daX9_ends_0 (i := 39) rfl
theorem daX9_ends_40 : dchk cX9_ends [(72, .iload_n 2, 1), (73, .bipush 112, 2), (75, .if_icmp .ge 24, 3), (78, .aload_n 0, 1), (79, .getfield 22, 3), (82, .iload_n 2, 1), (83, .aload_n 0, 1), (84, .getfield 22, 3), (87, .iload_n 2, 1), (88, .bipush 16, 2), (90, .iadd, 1), (91, .iaload, 1), (92, .iastore, 1), (93, .iinc 2 1, 3), (96, .goto (-24), 3), (99, .aload_n 0, 1), (100, .dup, 1), (101, .getfield 101, 3), (104, .iconst 1, 1), (105, .isub, 1), (106, .putfield 101, 3), (109, .iconst 0, 1), (110, .istore_n 2, 1), (111, .iload_n 2, 1), (112, .bipush 16, 2), (114, .if_icmp .ge 29, 3), (117, .aload_n 0, 1), (118, .getfield 22, 3), (121, .aload_n 0, 1), (122, .getfield 101, 3), (125, .bipush 16, 2), (127, .imul, 1), (128, .iload_n 2, 1), (129, .iadd, 1), (130, .aload_n 0, 1), (131, .getfield 28, 3), (134, .iload_n 2, 1), (135, .iaload, 1), (136, .iastore, 1), (137, .iinc 2 1, 3)] = true := by decide +kernel
theorem dX9_ends_72 : decode cX9_ends 72 = .ok (.iload_n 2, 1) := dq daX9_ends_40 (i := 0) rfl
theorem dX9_ends_73 : decode cX9_ends 73 = .ok (.bipush 112, 2) := dq daX9_ends_40 (i := 1) rfl
theorem dX9_ends_75 : decode cX9_ends 75 = .ok (.if_icmp .ge 24, 3) := dq daX9_ends_40 (i := 2) rfl
theorem dX9_ends_78 : decode cX9_ends 78 = .ok (.aload_n 0, 1) := dq daX9_ends_40 (i := 3) rfl
theorem dX9_ends_79 : decode cX9_ends 79 = .ok (.getfield 22, 3) := dq daX9_ends_40 (i := 4) rfl
theorem dX9_ends_82 : decode cX9_ends 82 = .ok (.iload_n 2, 1) := dq daX9_ends_40 (i := 5) rfl
theorem dX9_ends_83 : decode cX9_ends 83 = .ok (.aload_n 0, 1) := dq daX9_ends_40 (i := 6) rfl
theorem dX9_ends_84 : decode cX9_ends 84 = .ok (.getfield 22, 3) := dq daX9_ends_40 (i := 7) rfl
theorem dX9_ends_87 : decode cX9_ends 87 = .ok (.iload_n 2, 1) := dq daX9_ends_40 (i := 8) rfl
theorem dX9_ends_88 : decode cX9_ends 88 = .ok (.bipush 16, 2) := dq daX9_ends_40 (i := 9) rfl
theorem dX9_ends_90 : decode cX9_ends 90 = .ok (.iadd, 1) := dq daX9_ends_40 (i := 10) rfl
theorem dX9_ends_91 : decode cX9_ends 91 = .ok (.iaload, 1) := dq daX9_ends_40 (i := 11) rfl
theorem dX9_ends_92 : decode cX9_ends 92 = .ok (.iastore, 1) := dq daX9_ends_40 (i := 12) rfl
theorem dX9_ends_93 : decode cX9_ends 93 = .ok (.iinc 2 1, 3) := dq daX9_ends_40 (i := 13) rfl
theorem dX9_ends_96 : decode cX9_ends 96 = .ok (.goto (-24), 3) := dq daX9_ends_40 (i := 14) rfl
theorem dX9_ends_99 : decode cX9_ends 99 = .ok (.aload_n 0, 1) := dq daX9_ends_40 (i := 15) rfl
theorem dX9_ends_100 : decode cX9_ends 100 = .ok (.dup, 1) := dq daX9_ends_40 (i := 16) rfl
theorem dX9_ends_101 : decode cX9_ends 101 = .ok (.getfield 101, 3) := dq daX9_ends_40 (i := 17) rfl
theorem dX9_ends_104 : decode cX9_ends 104 = .ok (.iconst 1, 1) := dq daX9_ends_40 (i := 18) rfl
theorem dX9_ends_105 : decode cX9_ends 105 = .ok (.isub, 1) := dq daX9_ends_40 (i := 19) rfl
theorem dX9_ends_106 : decode cX9_ends 106 = .ok (.putfield 101, 3) := dq daX9_ends_40 (i := 20) rfl
theorem dX9_ends_109 : decode cX9_ends 109 = .ok (.iconst 0, 1) := dq daX9_ends_40 (i := 21) rfl
theorem dX9_ends_110 : decode cX9_ends 110 = .ok (.istore_n 2, 1) := dq daX9_ends_40 (i := 22) rfl
theorem dX9_ends_111 : decode cX9_ends 111 = .ok (.iload_n 2, 1) := dq daX9_ends_40 (i := 23) rfl
theorem dX9_ends_112 : decode cX9_ends 112 = .ok (.bipush 16, 2) := dq daX9_ends_40 (i := 24) rfl
theorem dX9_ends_114 : decode cX9_ends 114 = .ok (.if_icmp .ge 29, 3) := dq daX9_ends_40 (i := 25) rfl
theorem dX9_ends_117 : decode cX9_ends 117 = .ok (.aload_n 0, 1) := dq daX9_ends_40 (i := 26) rfl
theorem dX9_ends_118 : decode cX9_ends 118 = .ok (.getfield 22, 3) := dq daX9_ends_40 (i := 27) rfl
theorem dX9_ends_121 : decode cX9_ends 121 = .ok (.aload_n 0, 1) := dq daX9_ends_40 (i := 28) rfl
theorem dX9_ends_122 : decode cX9_ends 122 = .ok (.getfield 101, 3) := dq daX9_ends_40 (i := 29) rfl
theorem dX9_ends_125 : decode cX9_ends 125 = .ok (.bipush 16, 2) := dq daX9_ends_40 (i := 30) rfl
theorem dX9_ends_127 : decode cX9_ends 127 = .ok (.imul, 1) := dq daX9_ends_40 (i := 31) rfl
theorem dX9_ends_128 : decode cX9_ends 128 = .ok (.iload_n 2, 1) := dq daX9_ends_40 (i := 32) rfl
theorem dX9_ends_129 : decode cX9_ends 129 = .ok (.iadd, 1) := dq daX9_ends_40 (i := 33) rfl
theorem dX9_ends_130 : decode cX9_ends 130 = .ok (.aload_n 0, 1) := dq daX9_ends_40 (i := 34) rfl
theorem dX9_ends_131 : decode cX9_ends 131 = .ok (.getfield 28, 3) := dq daX9_ends_40 (i := 35) rfl
theorem dX9_ends_134 : decode cX9_ends 134 = .ok (.iload_n 2, 1) := dq daX9_ends_40 (i := 36) rfl
theorem dX9_ends_135 : decode cX9_ends 135 = .ok (.iaload, 1) := dq daX9_ends_40 (i := 37) rfl
theorem dX9_ends_136 : decode cX9_ends 136 = .ok (.iastore, 1) := dq daX9_ends_40 (i := 38) rfl
theorem dX9_ends_137 : decode cX9_ends 137 = .ok (.iinc 2 1, 3) := dq daX9_ends_40 (i := 39) rfl
theorem daX9_ends_80 : dchk cX9_ends [(140, .goto (-29), 3), (143, .aload_n 0, 1), (144, .dup, 1), (145, .getfield 101, 3), (148, .iconst 1, 1), (149, .iadd, 1), (150, .putfield 101, 3), (153, .aload_n 0, 1), (154, .iconst 0, 1), (155, .putfield 104, 3), (158, .return_, 1)] = true := by decide +kernel
theorem dX9_ends_140 : decode cX9_ends 140 = .ok (.goto (-29), 3) := dq daX9_ends_80 (i := 0) rfl
theorem dX9_ends_143 : decode cX9_ends 143 = .ok (.aload_n 0, 1) := dq daX9_ends_80 (i := 1) rfl
theorem dX9_ends_144 : decode cX9_ends 144 = .ok (.dup, 1) := dq daX9_ends_80 (i := 2) rfl
theorem dX9_ends_145 : decode cX9_ends 145 = .ok (.getfield 101, 3) := dq daX9_ends_80 (i := 3) rfl
theorem dX9_ends_148 : decode cX9_ends 148 = .ok (.iconst 1, 1) := dq daX9_ends_80 (i := 4) rfl
theorem dX9_ends_149 : decode cX9_ends 149 = .ok (.iadd, 1) := dq daX9_ends_80 (i := 5) rfl
theorem dX9_ends_150 : decode cX9_ends 150 = .ok (.putfield 101, 3) := dq daX9_ends_80 (i := 6) rfl
theorem dX9_ends_153 : decode cX9_ends 153 = .ok (.aload_n 0, 1) := dq daX9_ends_80 (i := 7) rfl
theorem dX9_ends_154 : decode cX9_ends 154 = .ok (.iconst 0, 1) := dq daX9_ends_80 (i := 8) rfl
theorem dX9_ends_155 : decode cX9_ends 155 = .ok (.putfield 104, 3) := dq daX9_ends_80 (i := 9) rfl
theorem dX9_ends_158 : decode cX9_ends 158 = .ok (.return_, 1) := dq daX9_ends_80 (i := 10) rfl
theorem daX9_undo_0 : dchk cX9_undo [(0, .aload_n 0, 1), (1, .getfield 101, 3), (4, .ifCond .ne 6, 3), (7, .bipush (-5), 2), (9, .ireturn, 1), (10, .aload_n 0, 1), (11, .aload_n 0, 1), (12, .getfield 25, 3), (15, .aload_n 0, 1), (16, .getfield 104, 3), (19, .bipush 16, 2), (21, .imul, 1), (22, .invokevirtual 97, 3), (25, .aload_n 0, 1), (26, .dup, 1), (27, .getfield 104, 3), (30, .iconst 1, 1), (31, .iadd, 1), (32, .putfield 104, 3), (35, .aload_n 0, 1), (36, .dup, 1), (37, .getfield 101, 3), (40, .iconst 1, 1), (41, .isub, 1), (42, .putfield 101, 3), (45, .aload_n 0, 1), (46, .aload_n 0, 1), (47, .getfield 22, 3), (50, .aload_n 0, 1), (51, .getfield 101, 3), (54, .bipush 16, 2), (56, .imul, 1), (57, .invokevirtual 107, 3), (60, .aload_n 0, 1), (61, .getfield 101, 3), (64, .ireturn, 1)] = true := by decide +kernel
theorem dX9_undo_0 : decode cX9_undo 0 = .ok (.aload_n 0, 1) := dq daX9_undo_0 (i := 0) rfl
theorem dX9_undo_1 : decode cX9_undo 1 = .ok (.getfield 101, 3) := dq daX9_undo_0 (i := 1) rfl
theorem dX9_undo_4 : decode cX9_undo 4 = .ok (.ifCond .ne 6, 3) := dq daX9_undo_0 (i := 2) rfl
theorem dX9_undo_7 : decode cX9_undo 7 = .ok (.bipush (-5), 2) := dq daX9_undo_0 (i := 3) rfl
theorem dX9_undo_9 : decode cX9_undo 9 = .ok (.ireturn, 1) := dq daX9_undo_0 (i := 4) rfl
theorem dX9_undo_10 : decode cX9_undo 10 = .ok (.aload_n 0, 1) := dq daX9_undo_0 (i := 5) rfl
theorem dX9_undo_11 : decode cX9_undo 11 = .ok (.aload_n 0, 1) := dq daX9_undo_0 (i := 6) rfl
theorem dX9_undo_12 : decode cX9_undo 12 = .ok (.getfield 25, 3) := dq daX9_undo_0 (i := 7) rfl
theorem dX9_undo_15 : decode cX9_undo 15 = .ok (.aload_n 0, 1) := dq daX9_undo_0 (i := 8) rfl
theorem dX9_undo_16 : decode cX9_undo 16 = .ok (.getfield 104, 3) := dq daX9_undo_0 (i := 9) rfl
theorem dX9_undo_19 : decode cX9_undo 19 = .ok (.bipush 16, 2) := dq daX9_undo_0 (i := 10) rfl
theorem dX9_undo_21 : decode cX9_undo 21 = .ok (.imul, 1) := dq daX9_undo_0 (i := 11) rfl
theorem dX9_undo_22 : decode cX9_undo 22 = .ok (.invokevirtual 97, 3) := dq daX9_undo_0 (i := 12) rfl
theorem dX9_undo_25 : decode cX9_undo 25 = .ok (.aload_n 0, 1) := dq daX9_undo_0 (i := 13) rfl
theorem dX9_undo_26 : decode cX9_undo 26 = .ok (.dup, 1) := dq daX9_undo_0 (i := 14) rfl
theorem dX9_undo_27 : decode cX9_undo 27 = .ok (.getfield 104, 3) := dq daX9_undo_0 (i := 15) rfl
theorem dX9_undo_30 : decode cX9_undo 30 = .ok (.iconst 1, 1) := dq daX9_undo_0 (i := 16) rfl
theorem dX9_undo_31 : decode cX9_undo 31 = .ok (.iadd, 1) := dq daX9_undo_0 (i := 17) rfl
theorem dX9_undo_32 : decode cX9_undo 32 = .ok (.putfield 104, 3) := dq daX9_undo_0 (i := 18) rfl
theorem dX9_undo_35 : decode cX9_undo 35 = .ok (.aload_n 0, 1) := dq daX9_undo_0 (i := 19) rfl
theorem dX9_undo_36 : decode cX9_undo 36 = .ok (.dup, 1) := dq daX9_undo_0 (i := 20) rfl
theorem dX9_undo_37 : decode cX9_undo 37 = .ok (.getfield 101, 3) := dq daX9_undo_0 (i := 21) rfl
theorem dX9_undo_40 : decode cX9_undo 40 = .ok (.iconst 1, 1) := dq daX9_undo_0 (i := 22) rfl
theorem dX9_undo_41 : decode cX9_undo 41 = .ok (.isub, 1) := dq daX9_undo_0 (i := 23) rfl
theorem dX9_undo_42 : decode cX9_undo 42 = .ok (.putfield 101, 3) := dq daX9_undo_0 (i := 24) rfl
theorem dX9_undo_45 : decode cX9_undo 45 = .ok (.aload_n 0, 1) := dq daX9_undo_0 (i := 25) rfl
theorem dX9_undo_46 : decode cX9_undo 46 = .ok (.aload_n 0, 1) := dq daX9_undo_0 (i := 26) rfl
theorem dX9_undo_47 : decode cX9_undo 47 = .ok (.getfield 22, 3) := dq daX9_undo_0 (i := 27) rfl
theorem dX9_undo_50 : decode cX9_undo 50 = .ok (.aload_n 0, 1) := dq daX9_undo_0 (i := 28) rfl
theorem dX9_undo_51 : decode cX9_undo 51 = .ok (.getfield 101, 3) := dq daX9_undo_0 (i := 29) rfl
theorem dX9_undo_54 : decode cX9_undo 54 = .ok (.bipush 16, 2) := dq daX9_undo_0 (i := 30) rfl
theorem dX9_undo_56 : decode cX9_undo 56 = .ok (.imul, 1) := dq daX9_undo_0 (i := 31) rfl
theorem dX9_undo_57 : decode cX9_undo 57 = .ok (.invokevirtual 107, 3) := dq daX9_undo_0 (i := 32) rfl
theorem dX9_undo_60 : decode cX9_undo 60 = .ok (.aload_n 0, 1) := dq daX9_undo_0 (i := 33) rfl
theorem dX9_undo_61 : decode cX9_undo 61 = .ok (.getfield 101, 3) := dq daX9_undo_0 (i := 34) rfl
theorem dX9_undo_64 : decode cX9_undo 64 = .ok (.ireturn, 1) := dq daX9_undo_0 (i := 35) rfl
theorem daX9_again_0 : dchk cX9_again [(0, .aload_n 0, 1), (1, .getfield 104, 3), (4, .ifCond .ne 6, 3), (7, .bipush (-5), 2), (9, .ireturn, 1), (10, .aload_n 0, 1), (11, .aload_n 0, 1), (12, .getfield 22, 3), (15, .aload_n 0, 1), (16, .getfield 101, 3), (19, .bipush 16, 2), (21, .imul, 1), (22, .invokevirtual 97, 3), (25, .aload_n 0, 1), (26, .dup, 1), (27, .getfield 101, 3), (30, .iconst 1, 1), (31, .iadd, 1), (32, .putfield 101, 3), (35, .aload_n 0, 1), (36, .dup, 1), (37, .getfield 104, 3), (40, .iconst 1, 1), (41, .isub, 1), (42, .putfield 104, 3), (45, .aload_n 0, 1), (46, .aload_n 0, 1), (47, .getfield 25, 3), (50, .aload_n 0, 1), (51, .getfield 104, 3), (54, .bipush 16, 2), (56, .imul, 1), (57, .invokevirtual 107, 3), (60, .aload_n 0, 1), (61, .getfield 104, 3), (64, .ireturn, 1)] = true := by decide +kernel
theorem dX9_again_0 : decode cX9_again 0 = .ok (.aload_n 0, 1) := dq daX9_again_0 (i := 0) rfl
theorem dX9_again_1 : decode cX9_again 1 = .ok (.getfield 104, 3) := dq daX9_again_0 (i := 1) rfl
theorem dX9_again_4 : decode cX9_again 4 = .ok (.ifCond .ne 6, 3) := dq daX9_again_0 (i := 2) rfl
theorem dX9_again_7 : decode cX9_again 7 = .ok (.bipush (-5), 2) := dq daX9_again_0 (i := 3) rfl
theorem dX9_again_9 : decode cX9_again 9 = .ok (.ireturn, 1) := dq daX9_again_0 (i := 4) rfl
theorem dX9_again_10 : decode cX9_again 10 = .ok (.aload_n 0, 1) := dq daX9_again_0 (i := 5) rfl
theorem dX9_again_11 : decode cX9_again 11 = .ok (.aload_n 0, 1) := dq daX9_again_0 (i := 6) rfl
theorem dX9_again_12 : decode cX9_again 12 = .ok (.getfield 22, 3) := dq daX9_again_0 (i := 7) rfl
theorem dX9_again_15 : decode cX9_again 15 = .ok (.aload_n 0, 1) := dq daX9_again_0 (i := 8) rfl
theorem dX9_again_16 : decode cX9_again 16 = .ok (.getfield 101, 3) := dq daX9_again_0 (i := 9) rfl
theorem dX9_again_19 : decode cX9_again 19 = .ok (.bipush 16, 2) := dq daX9_again_0 (i := 10) rfl
theorem dX9_again_21 : decode cX9_again 21 = .ok (.imul, 1) := dq daX9_again_0 (i := 11) rfl
theorem dX9_again_22 : decode cX9_again 22 = .ok (.invokevirtual 97, 3) := dq daX9_again_0 (i := 12) rfl
theorem dX9_again_25 : decode cX9_again 25 = .ok (.aload_n 0, 1) := dq daX9_again_0 (i := 13) rfl
theorem dX9_again_26 : decode cX9_again 26 = .ok (.dup, 1) := dq daX9_again_0 (i := 14) rfl
theorem dX9_again_27 : decode cX9_again 27 = .ok (.getfield 101, 3) := dq daX9_again_0 (i := 15) rfl
theorem dX9_again_30 : decode cX9_again 30 = .ok (.iconst 1, 1) := dq daX9_again_0 (i := 16) rfl
theorem dX9_again_31 : decode cX9_again 31 = .ok (.iadd, 1) := dq daX9_again_0 (i := 17) rfl
theorem dX9_again_32 : decode cX9_again 32 = .ok (.putfield 101, 3) := dq daX9_again_0 (i := 18) rfl
theorem dX9_again_35 : decode cX9_again 35 = .ok (.aload_n 0, 1) := dq daX9_again_0 (i := 19) rfl
theorem dX9_again_36 : decode cX9_again 36 = .ok (.dup, 1) := dq daX9_again_0 (i := 20) rfl
theorem dX9_again_37 : decode cX9_again 37 = .ok (.getfield 104, 3) := dq daX9_again_0 (i := 21) rfl
theorem dX9_again_40 : decode cX9_again 40 = .ok (.iconst 1, 1) := dq daX9_again_0 (i := 22) rfl
theorem dX9_again_41 : decode cX9_again 41 = .ok (.isub, 1) := dq daX9_again_0 (i := 23) rfl
theorem dX9_again_42 : decode cX9_again 42 = .ok (.putfield 104, 3) := dq daX9_again_0 (i := 24) rfl
theorem dX9_again_45 : decode cX9_again 45 = .ok (.aload_n 0, 1) := dq daX9_again_0 (i := 25) rfl
theorem dX9_again_46 : decode cX9_again 46 = .ok (.aload_n 0, 1) := dq daX9_again_0 (i := 26) rfl
theorem dX9_again_47 : decode cX9_again 47 = .ok (.getfield 25, 3) := dq daX9_again_0 (i := 27) rfl
theorem dX9_again_50 : decode cX9_again 50 = .ok (.aload_n 0, 1) := dq daX9_again_0 (i := 28) rfl
theorem dX9_again_51 : decode cX9_again 51 = .ok (.getfield 104, 3) := dq daX9_again_0 (i := 29) rfl
theorem dX9_again_54 : decode cX9_again 54 = .ok (.bipush 16, 2) := dq daX9_again_0 (i := 30) rfl
theorem dX9_again_56 : decode cX9_again 56 = .ok (.imul, 1) := dq daX9_again_0 (i := 31) rfl
theorem dX9_again_57 : decode cX9_again 57 = .ok (.invokevirtual 107, 3) := dq daX9_again_0 (i := 32) rfl
theorem dX9_again_60 : decode cX9_again 60 = .ok (.aload_n 0, 1) := dq daX9_again_0 (i := 33) rfl
theorem dX9_again_61 : decode cX9_again 61 = .ok (.getfield 104, 3) := dq daX9_again_0 (i := 34) rfl
theorem dX9_again_64 : decode cX9_again 64 = .ok (.ireturn, 1) := dq daX9_again_0 (i := 35) rfl
theorem daX9_isMark_0 : dchk cX9_isMark [(0, .iload_n 1, 1), (1, .i2l, 1), (2, .lconst 0, 1), (3, .aload_n 0, 1), (4, .getfield 91, 3), (7, .iconst 1, 1), (8, .isub, 1), (9, .i2l, 1), (10, .invokestatic 110, 3), (13, .ireturn, 1)] = true := by decide +kernel
theorem dX9_isMark_0 : decode cX9_isMark 0 = .ok (.iload_n 1, 1) := dq daX9_isMark_0 (i := 0) rfl
theorem dX9_isMark_1 : decode cX9_isMark 1 = .ok (.i2l, 1) := dq daX9_isMark_0 (i := 1) rfl
theorem dX9_isMark_2 : decode cX9_isMark 2 = .ok (.lconst 0, 1) := dq daX9_isMark_0 (i := 2) rfl
theorem dX9_isMark_3 : decode cX9_isMark 3 = .ok (.aload_n 0, 1) := dq daX9_isMark_0 (i := 3) rfl
theorem dX9_isMark_4 : decode cX9_isMark 4 = .ok (.getfield 91, 3) := dq daX9_isMark_0 (i := 4) rfl
theorem dX9_isMark_7 : decode cX9_isMark 7 = .ok (.iconst 1, 1) := dq daX9_isMark_0 (i := 5) rfl
theorem dX9_isMark_8 : decode cX9_isMark 8 = .ok (.isub, 1) := dq daX9_isMark_0 (i := 6) rfl
theorem dX9_isMark_9 : decode cX9_isMark 9 = .ok (.i2l, 1) := dq daX9_isMark_0 (i := 7) rfl
theorem dX9_isMark_10 : decode cX9_isMark 10 = .ok (.invokestatic 110, 3) := dq daX9_isMark_0 (i := 8) rfl
theorem dX9_isMark_13 : decode cX9_isMark 13 = .ok (.ireturn, 1) := dq daX9_isMark_0 (i := 9) rfl
theorem daX9_genus_0 : dchk cX9_genus [(0, .iload_n 1, 1), (1, .i2l, 1), (2, .lconst 0, 1), (3, .ldc2_w 114, 3), (6, .invokestatic 110, 3), (9, .ifCond .ne 5, 3), (12, .iconst (-1), 1), (13, .ireturn, 1), (14, .aload_n 0, 1), (15, .getfield 88, 3), (18, .istore_n 2, 1), (19, .aload_n 0, 1), (20, .invokevirtual 116, 3), (23, .aload_n 0, 1), (24, .iload_n 1, 1), (25, .putfield 88, 3), (28, .aload_n 0, 1), (29, .invokevirtual 119, 3), (32, .iload_n 2, 1), (33, .ireturn, 1)] = true := by decide +kernel
theorem dX9_genus_0 : decode cX9_genus 0 = .ok (.iload_n 1, 1) := dq daX9_genus_0 (i := 0) rfl
theorem dX9_genus_1 : decode cX9_genus 1 = .ok (.i2l, 1) := dq daX9_genus_0 (i := 1) rfl
theorem dX9_genus_2 : decode cX9_genus 2 = .ok (.lconst 0, 1) := dq daX9_genus_0 (i := 2) rfl
theorem dX9_genus_3 : decode cX9_genus 3 = .ok (.ldc2_w 114, 3) := dq daX9_genus_0 (i := 3) rfl
theorem dX9_genus_6 : decode cX9_genus 6 = .ok (.invokestatic 110, 3) := dq daX9_genus_0 (i := 4) rfl
theorem dX9_genus_9 : decode cX9_genus 9 = .ok (.ifCond .ne 5, 3) := dq daX9_genus_0 (i := 5) rfl
theorem dX9_genus_12 : decode cX9_genus 12 = .ok (.iconst (-1), 1) := dq daX9_genus_0 (i := 6) rfl
theorem dX9_genus_13 : decode cX9_genus 13 = .ok (.ireturn, 1) := dq daX9_genus_0 (i := 7) rfl
theorem dX9_genus_14 : decode cX9_genus 14 = .ok (.aload_n 0, 1) := dq daX9_genus_0 (i := 8) rfl
theorem dX9_genus_15 : decode cX9_genus 15 = .ok (.getfield 88, 3) := dq daX9_genus_0 (i := 9) rfl
theorem dX9_genus_18 : decode cX9_genus 18 = .ok (.istore_n 2, 1) := dq daX9_genus_0 (i := 10) rfl
theorem dX9_genus_19 : decode cX9_genus 19 = .ok (.aload_n 0, 1) := dq daX9_genus_0 (i := 11) rfl
theorem dX9_genus_20 : decode cX9_genus 20 = .ok (.invokevirtual 116, 3) := dq daX9_genus_0 (i := 12) rfl
theorem dX9_genus_23 : decode cX9_genus 23 = .ok (.aload_n 0, 1) := dq daX9_genus_0 (i := 13) rfl
theorem dX9_genus_24 : decode cX9_genus 24 = .ok (.iload_n 1, 1) := dq daX9_genus_0 (i := 14) rfl
theorem dX9_genus_25 : decode cX9_genus 25 = .ok (.putfield 88, 3) := dq daX9_genus_0 (i := 15) rfl
theorem dX9_genus_28 : decode cX9_genus 28 = .ok (.aload_n 0, 1) := dq daX9_genus_0 (i := 16) rfl
theorem dX9_genus_29 : decode cX9_genus 29 = .ok (.invokevirtual 119, 3) := dq daX9_genus_0 (i := 17) rfl
theorem dX9_genus_32 : decode cX9_genus 32 = .ok (.iload_n 2, 1) := dq daX9_genus_0 (i := 18) rfl
theorem dX9_genus_33 : decode cX9_genus 33 = .ok (.ireturn, 1) := dq daX9_genus_0 (i := 19) rfl
theorem daX9_mark_0 : dchk cX9_mark [(0, .iload_n 1, 1), (1, .i2l, 1), (2, .lconst 0, 1), (3, .ldc2_w 122, 3), (6, .invokestatic 110, 3), (9, .ifCond .ne 5, 3), (12, .iconst (-1), 1), (13, .ireturn, 1), (14, .aload_n 0, 1), (15, .getfield 91, 3), (18, .bipush 8, 2), (20, .if_icmp .ne 6, 3), (23, .bipush (-3), 2), (25, .ireturn, 1), (26, .aload_n 0, 1), (27, .invokevirtual 116, 3), (30, .aload_n 0, 1), (31, .getfield 11, 3), (34, .aload_n 0, 1), (35, .getfield 91, 3), (38, .iload_n 1, 1), (39, .iastore, 1), (40, .aload_n 0, 1), (41, .dup, 1), (42, .getfield 91, 3), (45, .iconst 1, 1), (46, .iadd, 1), (47, .putfield 91, 3), (50, .aload_n 0, 1), (51, .invokevirtual 119, 3), (54, .aload_n 0, 1), (55, .getfield 91, 3), (58, .ireturn, 1)] = true := by decide +kernel
theorem dX9_mark_0 : decode cX9_mark 0 = .ok (.iload_n 1, 1) := dq daX9_mark_0 (i := 0) rfl
theorem dX9_mark_1 : decode cX9_mark 1 = .ok (.i2l, 1) := dq daX9_mark_0 (i := 1) rfl
theorem dX9_mark_2 : decode cX9_mark 2 = .ok (.lconst 0, 1) := dq daX9_mark_0 (i := 2) rfl
theorem dX9_mark_3 : decode cX9_mark 3 = .ok (.ldc2_w 122, 3) := dq daX9_mark_0 (i := 3) rfl
theorem dX9_mark_6 : decode cX9_mark 6 = .ok (.invokestatic 110, 3) := dq daX9_mark_0 (i := 4) rfl
theorem dX9_mark_9 : decode cX9_mark 9 = .ok (.ifCond .ne 5, 3) := dq daX9_mark_0 (i := 5) rfl
theorem dX9_mark_12 : decode cX9_mark 12 = .ok (.iconst (-1), 1) := dq daX9_mark_0 (i := 6) rfl
theorem dX9_mark_13 : decode cX9_mark 13 = .ok (.ireturn, 1) := dq daX9_mark_0 (i := 7) rfl
theorem dX9_mark_14 : decode cX9_mark 14 = .ok (.aload_n 0, 1) := dq daX9_mark_0 (i := 8) rfl
theorem dX9_mark_15 : decode cX9_mark 15 = .ok (.getfield 91, 3) := dq daX9_mark_0 (i := 9) rfl
theorem dX9_mark_18 : decode cX9_mark 18 = .ok (.bipush 8, 2) := dq daX9_mark_0 (i := 10) rfl
theorem dX9_mark_20 : decode cX9_mark 20 = .ok (.if_icmp .ne 6, 3) := dq daX9_mark_0 (i := 11) rfl
theorem dX9_mark_23 : decode cX9_mark 23 = .ok (.bipush (-3), 2) := dq daX9_mark_0 (i := 12) rfl
theorem dX9_mark_25 : decode cX9_mark 25 = .ok (.ireturn, 1) := dq daX9_mark_0 (i := 13) rfl
theorem dX9_mark_26 : decode cX9_mark 26 = .ok (.aload_n 0, 1) := dq daX9_mark_0 (i := 14) rfl
theorem dX9_mark_27 : decode cX9_mark 27 = .ok (.invokevirtual 116, 3) := dq daX9_mark_0 (i := 15) rfl
theorem dX9_mark_30 : decode cX9_mark 30 = .ok (.aload_n 0, 1) := dq daX9_mark_0 (i := 16) rfl
theorem dX9_mark_31 : decode cX9_mark 31 = .ok (.getfield 11, 3) := dq daX9_mark_0 (i := 17) rfl
theorem dX9_mark_34 : decode cX9_mark 34 = .ok (.aload_n 0, 1) := dq daX9_mark_0 (i := 18) rfl
theorem dX9_mark_35 : decode cX9_mark 35 = .ok (.getfield 91, 3) := dq daX9_mark_0 (i := 19) rfl
theorem dX9_mark_38 : decode cX9_mark 38 = .ok (.iload_n 1, 1) := dq daX9_mark_0 (i := 20) rfl
theorem dX9_mark_39 : decode cX9_mark 39 = .ok (.iastore, 1) := dq daX9_mark_0 (i := 21) rfl
theorem dX9_mark_40 : decode cX9_mark 40 = .ok (.aload_n 0, 1) := dq daX9_mark_0 (i := 22) rfl
theorem dX9_mark_41 : decode cX9_mark 41 = .ok (.dup, 1) := dq daX9_mark_0 (i := 23) rfl
theorem dX9_mark_42 : decode cX9_mark 42 = .ok (.getfield 91, 3) := dq daX9_mark_0 (i := 24) rfl
theorem dX9_mark_45 : decode cX9_mark 45 = .ok (.iconst 1, 1) := dq daX9_mark_0 (i := 25) rfl
theorem dX9_mark_46 : decode cX9_mark 46 = .ok (.iadd, 1) := dq daX9_mark_0 (i := 26) rfl
theorem dX9_mark_47 : decode cX9_mark 47 = .ok (.putfield 91, 3) := dq daX9_mark_0 (i := 27) rfl
theorem dX9_mark_50 : decode cX9_mark 50 = .ok (.aload_n 0, 1) := dq daX9_mark_0 (i := 28) rfl
theorem dX9_mark_51 : decode cX9_mark 51 = .ok (.invokevirtual 119, 3) := dq daX9_mark_0 (i := 29) rfl
theorem dX9_mark_54 : decode cX9_mark 54 = .ok (.aload_n 0, 1) := dq daX9_mark_0 (i := 30) rfl
theorem dX9_mark_55 : decode cX9_mark 55 = .ok (.getfield 91, 3) := dq daX9_mark_0 (i := 31) rfl
theorem dX9_mark_58 : decode cX9_mark 58 = .ok (.ireturn, 1) := dq daX9_mark_0 (i := 32) rfl
theorem daX9_take_0 : dchk cX9_take [(0, .aload_n 0, 1), (1, .iload_n 1, 1), (2, .invokevirtual 124, 3), (5, .ifCond .ne 5, 3), (8, .iconst (-1), 1), (9, .ireturn, 1), (10, .aload_n 0, 1), (11, .invokevirtual 116, 3), (14, .aload_n 0, 1), (15, .dup, 1), (16, .getfield 91, 3), (19, .iconst 1, 1), (20, .isub, 1), (21, .putfield 91, 3), (24, .iload_n 1, 1), (25, .istore_n 2, 1), (26, .iload_n 2, 1), (27, .aload_n 0, 1), (28, .getfield 91, 3), (31, .if_icmp .ge 23, 3), (34, .aload_n 0, 1), (35, .getfield 11, 3), (38, .iload_n 2, 1), (39, .aload_n 0, 1), (40, .getfield 11, 3), (43, .iload_n 2, 1), (44, .iconst 1, 1), (45, .iadd, 1), (46, .iaload, 1), (47, .iastore, 1), (48, .iinc 2 1, 3), (51, .goto (-25), 3), (54, .aload_n 0, 1), (55, .invokevirtual 119, 3), (58, .aload_n 0, 1), (59, .getfield 91, 3), (62, .ireturn, 1)] = true := by decide +kernel
theorem dX9_take_0 : decode cX9_take 0 = .ok (.aload_n 0, 1) := dq daX9_take_0 (i := 0) rfl
theorem dX9_take_1 : decode cX9_take 1 = .ok (.iload_n 1, 1) := dq daX9_take_0 (i := 1) rfl
theorem dX9_take_2 : decode cX9_take 2 = .ok (.invokevirtual 124, 3) := dq daX9_take_0 (i := 2) rfl
theorem dX9_take_5 : decode cX9_take 5 = .ok (.ifCond .ne 5, 3) := dq daX9_take_0 (i := 3) rfl
theorem dX9_take_8 : decode cX9_take 8 = .ok (.iconst (-1), 1) := dq daX9_take_0 (i := 4) rfl
theorem dX9_take_9 : decode cX9_take 9 = .ok (.ireturn, 1) := dq daX9_take_0 (i := 5) rfl
theorem dX9_take_10 : decode cX9_take 10 = .ok (.aload_n 0, 1) := dq daX9_take_0 (i := 6) rfl
theorem dX9_take_11 : decode cX9_take 11 = .ok (.invokevirtual 116, 3) := dq daX9_take_0 (i := 7) rfl
theorem dX9_take_14 : decode cX9_take 14 = .ok (.aload_n 0, 1) := dq daX9_take_0 (i := 8) rfl
theorem dX9_take_15 : decode cX9_take 15 = .ok (.dup, 1) := dq daX9_take_0 (i := 9) rfl
theorem dX9_take_16 : decode cX9_take 16 = .ok (.getfield 91, 3) := dq daX9_take_0 (i := 10) rfl
theorem dX9_take_19 : decode cX9_take 19 = .ok (.iconst 1, 1) := dq daX9_take_0 (i := 11) rfl
theorem dX9_take_20 : decode cX9_take 20 = .ok (.isub, 1) := dq daX9_take_0 (i := 12) rfl
theorem dX9_take_21 : decode cX9_take 21 = .ok (.putfield 91, 3) := dq daX9_take_0 (i := 13) rfl
theorem dX9_take_24 : decode cX9_take 24 = .ok (.iload_n 1, 1) := dq daX9_take_0 (i := 14) rfl
theorem dX9_take_25 : decode cX9_take 25 = .ok (.istore_n 2, 1) := dq daX9_take_0 (i := 15) rfl
theorem dX9_take_26 : decode cX9_take 26 = .ok (.iload_n 2, 1) := dq daX9_take_0 (i := 16) rfl
theorem dX9_take_27 : decode cX9_take 27 = .ok (.aload_n 0, 1) := dq daX9_take_0 (i := 17) rfl
theorem dX9_take_28 : decode cX9_take 28 = .ok (.getfield 91, 3) := dq daX9_take_0 (i := 18) rfl
theorem dX9_take_31 : decode cX9_take 31 = .ok (.if_icmp .ge 23, 3) := dq daX9_take_0 (i := 19) rfl
theorem dX9_take_34 : decode cX9_take 34 = .ok (.aload_n 0, 1) := dq daX9_take_0 (i := 20) rfl
theorem dX9_take_35 : decode cX9_take 35 = .ok (.getfield 11, 3) := dq daX9_take_0 (i := 21) rfl
theorem dX9_take_38 : decode cX9_take 38 = .ok (.iload_n 2, 1) := dq daX9_take_0 (i := 22) rfl
theorem dX9_take_39 : decode cX9_take 39 = .ok (.aload_n 0, 1) := dq daX9_take_0 (i := 23) rfl
theorem dX9_take_40 : decode cX9_take 40 = .ok (.getfield 11, 3) := dq daX9_take_0 (i := 24) rfl
theorem dX9_take_43 : decode cX9_take 43 = .ok (.iload_n 2, 1) := dq daX9_take_0 (i := 25) rfl
theorem dX9_take_44 : decode cX9_take 44 = .ok (.iconst 1, 1) := dq daX9_take_0 (i := 26) rfl
theorem dX9_take_45 : decode cX9_take 45 = .ok (.iadd, 1) := dq daX9_take_0 (i := 27) rfl
theorem dX9_take_46 : decode cX9_take 46 = .ok (.iaload, 1) := dq daX9_take_0 (i := 28) rfl
theorem dX9_take_47 : decode cX9_take 47 = .ok (.iastore, 1) := dq daX9_take_0 (i := 29) rfl
theorem dX9_take_48 : decode cX9_take 48 = .ok (.iinc 2 1, 3) := dq daX9_take_0 (i := 30) rfl
theorem dX9_take_51 : decode cX9_take 51 = .ok (.goto (-25), 3) := dq daX9_take_0 (i := 31) rfl
theorem dX9_take_54 : decode cX9_take 54 = .ok (.aload_n 0, 1) := dq daX9_take_0 (i := 32) rfl
theorem dX9_take_55 : decode cX9_take 55 = .ok (.invokevirtual 119, 3) := dq daX9_take_0 (i := 33) rfl
theorem dX9_take_58 : decode cX9_take 58 = .ok (.aload_n 0, 1) := dq daX9_take_0 (i := 34) rfl
theorem dX9_take_59 : decode cX9_take 59 = .ok (.getfield 91, 3) := dq daX9_take_0 (i := 35) rfl
theorem dX9_take_62 : decode cX9_take 62 = .ok (.ireturn, 1) := dq daX9_take_0 (i := 36) rfl
theorem daX9_change_0 : dchk cX9_change [(0, .aload_n 0, 1), (1, .iload_n 1, 1), (2, .invokevirtual 124, 3), (5, .ifCond .eq 15, 3), (8, .iload_n 2, 1), (9, .i2l, 1), (10, .lconst 0, 1), (11, .ldc2_w 122, 3), (14, .invokestatic 110, 3), (17, .ifCond .ne 5, 3), (20, .iconst (-1), 1), (21, .ireturn, 1), (22, .aload_n 0, 1), (23, .getfield 11, 3), (26, .iload_n 1, 1), (27, .iaload, 1), (28, .istore_n 3, 1), (29, .aload_n 0, 1), (30, .invokevirtual 116, 3), (33, .aload_n 0, 1), (34, .getfield 11, 3), (37, .iload_n 1, 1), (38, .iload_n 2, 1), (39, .iastore, 1), (40, .aload_n 0, 1), (41, .invokevirtual 119, 3), (44, .iload_n 3, 1), (45, .ireturn, 1)] = true := by decide +kernel
theorem dX9_change_0 : decode cX9_change 0 = .ok (.aload_n 0, 1) := dq daX9_change_0 (i := 0) rfl
theorem dX9_change_1 : decode cX9_change 1 = .ok (.iload_n 1, 1) := dq daX9_change_0 (i := 1) rfl
theorem dX9_change_2 : decode cX9_change 2 = .ok (.invokevirtual 124, 3) := dq daX9_change_0 (i := 2) rfl
theorem dX9_change_5 : decode cX9_change 5 = .ok (.ifCond .eq 15, 3) := dq daX9_change_0 (i := 3) rfl
theorem dX9_change_8 : decode cX9_change 8 = .ok (.iload_n 2, 1) := dq daX9_change_0 (i := 4) rfl
theorem dX9_change_9 : decode cX9_change 9 = .ok (.i2l, 1) := dq daX9_change_0 (i := 5) rfl
theorem dX9_change_10 : decode cX9_change 10 = .ok (.lconst 0, 1) := dq daX9_change_0 (i := 6) rfl
theorem dX9_change_11 : decode cX9_change 11 = .ok (.ldc2_w 122, 3) := dq daX9_change_0 (i := 7) rfl
theorem dX9_change_14 : decode cX9_change 14 = .ok (.invokestatic 110, 3) := dq daX9_change_0 (i := 8) rfl
theorem dX9_change_17 : decode cX9_change 17 = .ok (.ifCond .ne 5, 3) := dq daX9_change_0 (i := 9) rfl
theorem dX9_change_20 : decode cX9_change 20 = .ok (.iconst (-1), 1) := dq daX9_change_0 (i := 10) rfl
theorem dX9_change_21 : decode cX9_change 21 = .ok (.ireturn, 1) := dq daX9_change_0 (i := 11) rfl
theorem dX9_change_22 : decode cX9_change 22 = .ok (.aload_n 0, 1) := dq daX9_change_0 (i := 12) rfl
theorem dX9_change_23 : decode cX9_change 23 = .ok (.getfield 11, 3) := dq daX9_change_0 (i := 13) rfl
theorem dX9_change_26 : decode cX9_change 26 = .ok (.iload_n 1, 1) := dq daX9_change_0 (i := 14) rfl
theorem dX9_change_27 : decode cX9_change 27 = .ok (.iaload, 1) := dq daX9_change_0 (i := 15) rfl
theorem dX9_change_28 : decode cX9_change 28 = .ok (.istore_n 3, 1) := dq daX9_change_0 (i := 16) rfl
theorem dX9_change_29 : decode cX9_change 29 = .ok (.aload_n 0, 1) := dq daX9_change_0 (i := 17) rfl
theorem dX9_change_30 : decode cX9_change 30 = .ok (.invokevirtual 116, 3) := dq daX9_change_0 (i := 18) rfl
theorem dX9_change_33 : decode cX9_change 33 = .ok (.aload_n 0, 1) := dq daX9_change_0 (i := 19) rfl
theorem dX9_change_34 : decode cX9_change 34 = .ok (.getfield 11, 3) := dq daX9_change_0 (i := 20) rfl
theorem dX9_change_37 : decode cX9_change 37 = .ok (.iload_n 1, 1) := dq daX9_change_0 (i := 21) rfl
theorem dX9_change_38 : decode cX9_change 38 = .ok (.iload_n 2, 1) := dq daX9_change_0 (i := 22) rfl
theorem dX9_change_39 : decode cX9_change 39 = .ok (.iastore, 1) := dq daX9_change_0 (i := 23) rfl
theorem dX9_change_40 : decode cX9_change 40 = .ok (.aload_n 0, 1) := dq daX9_change_0 (i := 24) rfl
theorem dX9_change_41 : decode cX9_change 41 = .ok (.invokevirtual 119, 3) := dq daX9_change_0 (i := 25) rfl
theorem dX9_change_44 : decode cX9_change 44 = .ok (.iload_n 3, 1) := dq daX9_change_0 (i := 26) rfl
theorem dX9_change_45 : decode cX9_change 45 = .ok (.ireturn, 1) := dq daX9_change_0 (i := 27) rfl
theorem daX9_sorts_0 : dchk cX9_sorts [(0, .iconst 1, 1), (1, .istore_n 3, 1), (2, .iload_n 3, 1), (3, .iload_n 1, 1), (4, .if_icmp .ge 64, 3), (7, .iload_n 3, 1), (8, .istore 4, 2), (10, .iload 4, 2), (12, .ifCond .le 50, 3), (15, .iload_n 2, 1), (16, .aload_n 0, 1), (17, .iload 4, 2), (19, .iconst 1, 1), (20, .isub, 1), (21, .iaload, 1), (22, .imul, 1), (23, .iload_n 2, 1), (24, .aload_n 0, 1), (25, .iload 4, 2), (27, .iaload, 1), (28, .imul, 1), (29, .if_icmp .le 33, 3), (32, .aload_n 0, 1), (33, .iload 4, 2), (35, .iaload, 1), (36, .istore 5, 2), (38, .aload_n 0, 1), (39, .iload 4, 2), (41, .aload_n 0, 1), (42, .iload 4, 2), (44, .iconst 1, 1), (45, .isub, 1), (46, .iaload, 1), (47, .iastore, 1), (48, .aload_n 0, 1), (49, .iload 4, 2), (51, .iconst 1, 1), (52, .isub, 1), (53, .iload 5, 2), (55, .iastore, 1)] = true := by decide +kernel
theorem dX9_sorts_0 : decode cX9_sorts 0 = .ok (.iconst 1, 1) := dq daX9_sorts_0 (i := 0) rfl
theorem dX9_sorts_1 : decode cX9_sorts 1 = .ok (.istore_n 3, 1) := dq daX9_sorts_0 (i := 1) rfl
theorem dX9_sorts_2 : decode cX9_sorts 2 = .ok (.iload_n 3, 1) := dq daX9_sorts_0 (i := 2) rfl
theorem dX9_sorts_3 : decode cX9_sorts 3 = .ok (.iload_n 1, 1) := dq daX9_sorts_0 (i := 3) rfl
theorem dX9_sorts_4 : decode cX9_sorts 4 = .ok (.if_icmp .ge 64, 3) := dq daX9_sorts_0 (i := 4) rfl
theorem dX9_sorts_7 : decode cX9_sorts 7 = .ok (.iload_n 3, 1) := dq daX9_sorts_0 (i := 5) rfl
theorem dX9_sorts_8 : decode cX9_sorts 8 = .ok (.istore 4, 2) := dq daX9_sorts_0 (i := 6) rfl
theorem dX9_sorts_10 : decode cX9_sorts 10 = .ok (.iload 4, 2) := dq daX9_sorts_0 (i := 7) rfl
theorem dX9_sorts_12 : decode cX9_sorts 12 = .ok (.ifCond .le 50, 3) := dq daX9_sorts_0 (i := 8) rfl
theorem dX9_sorts_15 : decode cX9_sorts 15 = .ok (.iload_n 2, 1) := dq daX9_sorts_0 (i := 9) rfl
theorem dX9_sorts_16 : decode cX9_sorts 16 = .ok (.aload_n 0, 1) := dq daX9_sorts_0 (i := 10) rfl
theorem dX9_sorts_17 : decode cX9_sorts 17 = .ok (.iload 4, 2) := dq daX9_sorts_0 (i := 11) rfl
theorem dX9_sorts_19 : decode cX9_sorts 19 = .ok (.iconst 1, 1) := dq daX9_sorts_0 (i := 12) rfl
theorem dX9_sorts_20 : decode cX9_sorts 20 = .ok (.isub, 1) := dq daX9_sorts_0 (i := 13) rfl
theorem dX9_sorts_21 : decode cX9_sorts 21 = .ok (.iaload, 1) := dq daX9_sorts_0 (i := 14) rfl
theorem dX9_sorts_22 : decode cX9_sorts 22 = .ok (.imul, 1) := dq daX9_sorts_0 (i := 15) rfl
theorem dX9_sorts_23 : decode cX9_sorts 23 = .ok (.iload_n 2, 1) := dq daX9_sorts_0 (i := 16) rfl
theorem dX9_sorts_24 : decode cX9_sorts 24 = .ok (.aload_n 0, 1) := dq daX9_sorts_0 (i := 17) rfl
theorem dX9_sorts_25 : decode cX9_sorts 25 = .ok (.iload 4, 2) := dq daX9_sorts_0 (i := 18) rfl
theorem dX9_sorts_27 : decode cX9_sorts 27 = .ok (.iaload, 1) := dq daX9_sorts_0 (i := 19) rfl
theorem dX9_sorts_28 : decode cX9_sorts 28 = .ok (.imul, 1) := dq daX9_sorts_0 (i := 20) rfl
theorem dX9_sorts_29 : decode cX9_sorts 29 = .ok (.if_icmp .le 33, 3) := dq daX9_sorts_0 (i := 21) rfl
theorem dX9_sorts_32 : decode cX9_sorts 32 = .ok (.aload_n 0, 1) := dq daX9_sorts_0 (i := 22) rfl
theorem dX9_sorts_33 : decode cX9_sorts 33 = .ok (.iload 4, 2) := dq daX9_sorts_0 (i := 23) rfl
theorem dX9_sorts_35 : decode cX9_sorts 35 = .ok (.iaload, 1) := dq daX9_sorts_0 (i := 24) rfl
theorem dX9_sorts_36 : decode cX9_sorts 36 = .ok (.istore 5, 2) := dq daX9_sorts_0 (i := 25) rfl
theorem dX9_sorts_38 : decode cX9_sorts 38 = .ok (.aload_n 0, 1) := dq daX9_sorts_0 (i := 26) rfl
theorem dX9_sorts_39 : decode cX9_sorts 39 = .ok (.iload 4, 2) := dq daX9_sorts_0 (i := 27) rfl
theorem dX9_sorts_41 : decode cX9_sorts 41 = .ok (.aload_n 0, 1) := dq daX9_sorts_0 (i := 28) rfl
theorem dX9_sorts_42 : decode cX9_sorts 42 = .ok (.iload 4, 2) := dq daX9_sorts_0 (i := 29) rfl
theorem dX9_sorts_44 : decode cX9_sorts 44 = .ok (.iconst 1, 1) := dq daX9_sorts_0 (i := 30) rfl
theorem dX9_sorts_45 : decode cX9_sorts 45 = .ok (.isub, 1) := dq daX9_sorts_0 (i := 31) rfl
theorem dX9_sorts_46 : decode cX9_sorts 46 = .ok (.iaload, 1) := dq daX9_sorts_0 (i := 32) rfl
theorem dX9_sorts_47 : decode cX9_sorts 47 = .ok (.iastore, 1) := dq daX9_sorts_0 (i := 33) rfl
theorem dX9_sorts_48 : decode cX9_sorts 48 = .ok (.aload_n 0, 1) := dq daX9_sorts_0 (i := 34) rfl
theorem dX9_sorts_49 : decode cX9_sorts 49 = .ok (.iload 4, 2) := dq daX9_sorts_0 (i := 35) rfl
theorem dX9_sorts_51 : decode cX9_sorts 51 = .ok (.iconst 1, 1) := dq daX9_sorts_0 (i := 36) rfl
theorem dX9_sorts_52 : decode cX9_sorts 52 = .ok (.isub, 1) := dq daX9_sorts_0 (i := 37) rfl
theorem dX9_sorts_53 : decode cX9_sorts 53 = .ok (.iload 5, 2) := dq daX9_sorts_0 (i := 38) rfl
theorem dX9_sorts_55 : decode cX9_sorts 55 = .ok (.iastore, 1) := dq daX9_sorts_0 (i := 39) rfl
theorem daX9_sorts_40 : dchk cX9_sorts [(56, .iinc 4 (-1), 3), (59, .goto (-49), 3), (62, .iinc 3 1, 3), (65, .goto (-63), 3), (68, .return_, 1)] = true := by decide +kernel
theorem dX9_sorts_56 : decode cX9_sorts 56 = .ok (.iinc 4 (-1), 3) := dq daX9_sorts_40 (i := 0) rfl
theorem dX9_sorts_59 : decode cX9_sorts 59 = .ok (.goto (-49), 3) := dq daX9_sorts_40 (i := 1) rfl
theorem dX9_sorts_62 : decode cX9_sorts 62 = .ok (.iinc 3 1, 3) := dq daX9_sorts_40 (i := 2) rfl
theorem dX9_sorts_65 : decode cX9_sorts 65 = .ok (.goto (-63), 3) := dq daX9_sorts_40 (i := 3) rfl
theorem dX9_sorts_68 : decode cX9_sorts 68 = .ok (.return_, 1) := dq daX9_sorts_40 (i := 4) rfl
theorem daX9_order_0 : dchk cX9_order [(0, .iload_n 1, 1), (1, .i2l, 1), (2, .lconst 0, 1), (3, .ldc2_w 128, 3), (6, .invokestatic 110, 3), (9, .ifCond .ne 5, 3), (12, .iconst (-1), 1), (13, .ireturn, 1), (14, .aload_n 0, 1), (15, .invokevirtual 116, 3), (18, .iload_n 1, 1), (19, .iconst 2, 1), (20, .if_icmp .ge 26, 3), (23, .aload_n 0, 1), (24, .getfield 11, 3), (27, .aload_n 0, 1), (28, .getfield 91, 3), (31, .iload_n 1, 1), (32, .ifCond .ne 7, 3), (35, .iconst 1, 1), (36, .goto 4, 3), (39, .iconst (-1), 1), (40, .invokestatic 130, 3), (43, .goto 56, 3), (46, .iconst 0, 1), (47, .istore_n 2, 1), (48, .iload_n 2, 1), (49, .aload_n 0, 1), (50, .getfield 91, 3), (53, .if_icmp .ge 46, 3), (56, .aload_n 0, 1), (57, .getfield 11, 3), (60, .iload_n 2, 1), (61, .aload_n 0, 1), (62, .getfield 28, 3), (65, .iconst 4, 1), (66, .iload_n 1, 1), (67, .iconst 2, 1), (68, .if_icmp .ne 14, 3), (71, .aload_n 0, 1)] = true := by decide +kernel
theorem dX9_order_0 : decode cX9_order 0 = .ok (.iload_n 1, 1) := dq daX9_order_0 (i := 0) rfl
theorem dX9_order_1 : decode cX9_order 1 = .ok (.i2l, 1) := dq daX9_order_0 (i := 1) rfl
theorem dX9_order_2 : decode cX9_order 2 = .ok (.lconst 0, 1) := dq daX9_order_0 (i := 2) rfl
theorem dX9_order_3 : decode cX9_order 3 = .ok (.ldc2_w 128, 3) := dq daX9_order_0 (i := 3) rfl
theorem dX9_order_6 : decode cX9_order 6 = .ok (.invokestatic 110, 3) := dq daX9_order_0 (i := 4) rfl
theorem dX9_order_9 : decode cX9_order 9 = .ok (.ifCond .ne 5, 3) := dq daX9_order_0 (i := 5) rfl
theorem dX9_order_12 : decode cX9_order 12 = .ok (.iconst (-1), 1) := dq daX9_order_0 (i := 6) rfl
theorem dX9_order_13 : decode cX9_order 13 = .ok (.ireturn, 1) := dq daX9_order_0 (i := 7) rfl
theorem dX9_order_14 : decode cX9_order 14 = .ok (.aload_n 0, 1) := dq daX9_order_0 (i := 8) rfl
theorem dX9_order_15 : decode cX9_order 15 = .ok (.invokevirtual 116, 3) := dq daX9_order_0 (i := 9) rfl
theorem dX9_order_18 : decode cX9_order 18 = .ok (.iload_n 1, 1) := dq daX9_order_0 (i := 10) rfl
theorem dX9_order_19 : decode cX9_order 19 = .ok (.iconst 2, 1) := dq daX9_order_0 (i := 11) rfl
theorem dX9_order_20 : decode cX9_order 20 = .ok (.if_icmp .ge 26, 3) := dq daX9_order_0 (i := 12) rfl
theorem dX9_order_23 : decode cX9_order 23 = .ok (.aload_n 0, 1) := dq daX9_order_0 (i := 13) rfl
theorem dX9_order_24 : decode cX9_order 24 = .ok (.getfield 11, 3) := dq daX9_order_0 (i := 14) rfl
theorem dX9_order_27 : decode cX9_order 27 = .ok (.aload_n 0, 1) := dq daX9_order_0 (i := 15) rfl
theorem dX9_order_28 : decode cX9_order 28 = .ok (.getfield 91, 3) := dq daX9_order_0 (i := 16) rfl
theorem dX9_order_31 : decode cX9_order 31 = .ok (.iload_n 1, 1) := dq daX9_order_0 (i := 17) rfl
theorem dX9_order_32 : decode cX9_order 32 = .ok (.ifCond .ne 7, 3) := dq daX9_order_0 (i := 18) rfl
theorem dX9_order_35 : decode cX9_order 35 = .ok (.iconst 1, 1) := dq daX9_order_0 (i := 19) rfl
theorem dX9_order_36 : decode cX9_order 36 = .ok (.goto 4, 3) := dq daX9_order_0 (i := 20) rfl
theorem dX9_order_39 : decode cX9_order 39 = .ok (.iconst (-1), 1) := dq daX9_order_0 (i := 21) rfl
theorem dX9_order_40 : decode cX9_order 40 = .ok (.invokestatic 130, 3) := dq daX9_order_0 (i := 22) rfl
theorem dX9_order_43 : decode cX9_order 43 = .ok (.goto 56, 3) := dq daX9_order_0 (i := 23) rfl
theorem dX9_order_46 : decode cX9_order 46 = .ok (.iconst 0, 1) := dq daX9_order_0 (i := 24) rfl
theorem dX9_order_47 : decode cX9_order 47 = .ok (.istore_n 2, 1) := dq daX9_order_0 (i := 25) rfl
theorem dX9_order_48 : decode cX9_order 48 = .ok (.iload_n 2, 1) := dq daX9_order_0 (i := 26) rfl
theorem dX9_order_49 : decode cX9_order 49 = .ok (.aload_n 0, 1) := dq daX9_order_0 (i := 27) rfl
theorem dX9_order_50 : decode cX9_order 50 = .ok (.getfield 91, 3) := dq daX9_order_0 (i := 28) rfl
theorem dX9_order_53 : decode cX9_order 53 = .ok (.if_icmp .ge 46, 3) := dq daX9_order_0 (i := 29) rfl
theorem dX9_order_56 : decode cX9_order 56 = .ok (.aload_n 0, 1) := dq daX9_order_0 (i := 30) rfl
theorem dX9_order_57 : decode cX9_order 57 = .ok (.getfield 11, 3) := dq daX9_order_0 (i := 31) rfl
theorem dX9_order_60 : decode cX9_order 60 = .ok (.iload_n 2, 1) := dq daX9_order_0 (i := 32) rfl
theorem dX9_order_61 : decode cX9_order 61 = .ok (.aload_n 0, 1) := dq daX9_order_0 (i := 33) rfl
theorem dX9_order_62 : decode cX9_order 62 = .ok (.getfield 28, 3) := dq daX9_order_0 (i := 34) rfl
theorem dX9_order_65 : decode cX9_order 65 = .ok (.iconst 4, 1) := dq daX9_order_0 (i := 35) rfl
theorem dX9_order_66 : decode cX9_order 66 = .ok (.iload_n 1, 1) := dq daX9_order_0 (i := 36) rfl
theorem dX9_order_67 : decode cX9_order 67 = .ok (.iconst 2, 1) := dq daX9_order_0 (i := 37) rfl
theorem dX9_order_68 : decode cX9_order 68 = .ok (.if_icmp .ne 14, 3) := dq daX9_order_0 (i := 38) rfl
theorem dX9_order_71 : decode cX9_order 71 = .ok (.aload_n 0, 1) := dq daX9_order_0 (i := 39) rfl
theorem daX9_order_40 : dchk cX9_order [(72, .getfield 91, 3), (75, .iconst 1, 1), (76, .isub, 1), (77, .iload_n 2, 1), (78, .isub, 1), (79, .goto 11, 3), (82, .iload_n 2, 1), (83, .iconst 1, 1), (84, .iadd, 1), (85, .aload_n 0, 1), (86, .getfield 91, 3), (89, .irem, 1), (90, .iadd, 1), (91, .iaload, 1), (92, .iastore, 1), (93, .iinc 2 1, 3), (96, .goto (-48), 3), (99, .iconst 0, 1), (100, .istore_n 2, 1), (101, .iconst 0, 1), (102, .istore_n 3, 1), (103, .iload_n 3, 1), (104, .aload_n 0, 1), (105, .getfield 91, 3), (108, .if_icmp .ge 34, 3), (111, .iload_n 2, 1), (112, .aload_n 0, 1), (113, .getfield 11, 3), (116, .iload_n 3, 1), (117, .iaload, 1), (118, .aload_n 0, 1), (119, .getfield 28, 3), (122, .iconst 4, 1), (123, .iload_n 3, 1), (124, .iadd, 1), (125, .iaload, 1), (126, .if_icmp .ne 7, 3), (129, .iconst 0, 1), (130, .goto 4, 3), (133, .iconst 1, 1)] = true := by decide +kernel
theorem dX9_order_72 : decode cX9_order 72 = .ok (.getfield 91, 3) := dq daX9_order_40 (i := 0) rfl
theorem dX9_order_75 : decode cX9_order 75 = .ok (.iconst 1, 1) := dq daX9_order_40 (i := 1) rfl
theorem dX9_order_76 : decode cX9_order 76 = .ok (.isub, 1) := dq daX9_order_40 (i := 2) rfl
theorem dX9_order_77 : decode cX9_order 77 = .ok (.iload_n 2, 1) := dq daX9_order_40 (i := 3) rfl
theorem dX9_order_78 : decode cX9_order 78 = .ok (.isub, 1) := dq daX9_order_40 (i := 4) rfl
theorem dX9_order_79 : decode cX9_order 79 = .ok (.goto 11, 3) := dq daX9_order_40 (i := 5) rfl
theorem dX9_order_82 : decode cX9_order 82 = .ok (.iload_n 2, 1) := dq daX9_order_40 (i := 6) rfl
theorem dX9_order_83 : decode cX9_order 83 = .ok (.iconst 1, 1) := dq daX9_order_40 (i := 7) rfl
theorem dX9_order_84 : decode cX9_order 84 = .ok (.iadd, 1) := dq daX9_order_40 (i := 8) rfl
theorem dX9_order_85 : decode cX9_order 85 = .ok (.aload_n 0, 1) := dq daX9_order_40 (i := 9) rfl
theorem dX9_order_86 : decode cX9_order 86 = .ok (.getfield 91, 3) := dq daX9_order_40 (i := 10) rfl
theorem dX9_order_89 : decode cX9_order 89 = .ok (.irem, 1) := dq daX9_order_40 (i := 11) rfl
theorem dX9_order_90 : decode cX9_order 90 = .ok (.iadd, 1) := dq daX9_order_40 (i := 12) rfl
theorem dX9_order_91 : decode cX9_order 91 = .ok (.iaload, 1) := dq daX9_order_40 (i := 13) rfl
theorem dX9_order_92 : decode cX9_order 92 = .ok (.iastore, 1) := dq daX9_order_40 (i := 14) rfl
theorem dX9_order_93 : decode cX9_order 93 = .ok (.iinc 2 1, 3) := dq daX9_order_40 (i := 15) rfl
theorem dX9_order_96 : decode cX9_order 96 = .ok (.goto (-48), 3) := dq daX9_order_40 (i := 16) rfl
theorem dX9_order_99 : decode cX9_order 99 = .ok (.iconst 0, 1) := dq daX9_order_40 (i := 17) rfl
theorem dX9_order_100 : decode cX9_order 100 = .ok (.istore_n 2, 1) := dq daX9_order_40 (i := 18) rfl
theorem dX9_order_101 : decode cX9_order 101 = .ok (.iconst 0, 1) := dq daX9_order_40 (i := 19) rfl
theorem dX9_order_102 : decode cX9_order 102 = .ok (.istore_n 3, 1) := dq daX9_order_40 (i := 20) rfl
theorem dX9_order_103 : decode cX9_order 103 = .ok (.iload_n 3, 1) := dq daX9_order_40 (i := 21) rfl
theorem dX9_order_104 : decode cX9_order 104 = .ok (.aload_n 0, 1) := dq daX9_order_40 (i := 22) rfl
theorem dX9_order_105 : decode cX9_order 105 = .ok (.getfield 91, 3) := dq daX9_order_40 (i := 23) rfl
theorem dX9_order_108 : decode cX9_order 108 = .ok (.if_icmp .ge 34, 3) := dq daX9_order_40 (i := 24) rfl
theorem dX9_order_111 : decode cX9_order 111 = .ok (.iload_n 2, 1) := dq daX9_order_40 (i := 25) rfl
theorem dX9_order_112 : decode cX9_order 112 = .ok (.aload_n 0, 1) := dq daX9_order_40 (i := 26) rfl
theorem dX9_order_113 : decode cX9_order 113 = .ok (.getfield 11, 3) := dq daX9_order_40 (i := 27) rfl
theorem dX9_order_116 : decode cX9_order 116 = .ok (.iload_n 3, 1) := dq daX9_order_40 (i := 28) rfl
theorem dX9_order_117 : decode cX9_order 117 = .ok (.iaload, 1) := dq daX9_order_40 (i := 29) rfl
theorem dX9_order_118 : decode cX9_order 118 = .ok (.aload_n 0, 1) := dq daX9_order_40 (i := 30) rfl
theorem dX9_order_119 : decode cX9_order 119 = .ok (.getfield 28, 3) := dq daX9_order_40 (i := 31) rfl
theorem dX9_order_122 : decode cX9_order 122 = .ok (.iconst 4, 1) := dq daX9_order_40 (i := 32) rfl
theorem dX9_order_123 : decode cX9_order 123 = .ok (.iload_n 3, 1) := dq daX9_order_40 (i := 33) rfl
theorem dX9_order_124 : decode cX9_order 124 = .ok (.iadd, 1) := dq daX9_order_40 (i := 34) rfl
theorem dX9_order_125 : decode cX9_order 125 = .ok (.iaload, 1) := dq daX9_order_40 (i := 35) rfl
theorem dX9_order_126 : decode cX9_order 126 = .ok (.if_icmp .ne 7, 3) := dq daX9_order_40 (i := 36) rfl
theorem dX9_order_129 : decode cX9_order 129 = .ok (.iconst 0, 1) := dq daX9_order_40 (i := 37) rfl
theorem dX9_order_130 : decode cX9_order 130 = .ok (.goto 4, 3) := dq daX9_order_40 (i := 38) rfl
theorem dX9_order_133 : decode cX9_order 133 = .ok (.iconst 1, 1) := dq daX9_order_40 (i := 39) rfl
theorem daX9_order_80 : dchk cX9_order [(134, .iadd, 1), (135, .istore_n 2, 1), (136, .iinc 3 1, 3), (139, .goto (-36), 3), (142, .aload_n 0, 1), (143, .invokevirtual 119, 3), (146, .iload_n 2, 1), (147, .ireturn, 1)] = true := by decide +kernel
theorem dX9_order_134 : decode cX9_order 134 = .ok (.iadd, 1) := dq daX9_order_80 (i := 0) rfl
theorem dX9_order_135 : decode cX9_order 135 = .ok (.istore_n 2, 1) := dq daX9_order_80 (i := 1) rfl
theorem dX9_order_136 : decode cX9_order 136 = .ok (.iinc 3 1, 3) := dq daX9_order_80 (i := 2) rfl
theorem dX9_order_139 : decode cX9_order 139 = .ok (.goto (-36), 3) := dq daX9_order_80 (i := 3) rfl
theorem dX9_order_142 : decode cX9_order 142 = .ok (.aload_n 0, 1) := dq daX9_order_80 (i := 4) rfl
theorem dX9_order_143 : decode cX9_order 143 = .ok (.invokevirtual 119, 3) := dq daX9_order_80 (i := 5) rfl
theorem dX9_order_146 : decode cX9_order 146 = .ok (.iload_n 2, 1) := dq daX9_order_80 (i := 6) rfl
theorem dX9_order_147 : decode cX9_order 147 = .ok (.ireturn, 1) := dq daX9_order_80 (i := 7) rfl
theorem daX9_of_0 : dchk cX9_of [(0, .aload_n 0, 1), (1, .iload_n 1, 1), (2, .invokevirtual 124, 3), (5, .ifCond .eq 12, 3), (8, .aload_n 0, 1), (9, .getfield 11, 3), (12, .iload_n 1, 1), (13, .iaload, 1), (14, .goto 4, 3), (17, .iconst (-1), 1), (18, .ireturn, 1)] = true := by decide +kernel
theorem dX9_of_0 : decode cX9_of 0 = .ok (.aload_n 0, 1) := dq daX9_of_0 (i := 0) rfl
theorem dX9_of_1 : decode cX9_of 1 = .ok (.iload_n 1, 1) := dq daX9_of_0 (i := 1) rfl
theorem dX9_of_2 : decode cX9_of 2 = .ok (.invokevirtual 124, 3) := dq daX9_of_0 (i := 2) rfl
theorem dX9_of_5 : decode cX9_of 5 = .ok (.ifCond .eq 12, 3) := dq daX9_of_0 (i := 3) rfl
theorem dX9_of_8 : decode cX9_of 8 = .ok (.aload_n 0, 1) := dq daX9_of_0 (i := 4) rfl
theorem dX9_of_9 : decode cX9_of 9 = .ok (.getfield 11, 3) := dq daX9_of_0 (i := 5) rfl
theorem dX9_of_12 : decode cX9_of 12 = .ok (.iload_n 1, 1) := dq daX9_of_0 (i := 6) rfl
theorem dX9_of_13 : decode cX9_of 13 = .ok (.iaload, 1) := dq daX9_of_0 (i := 7) rfl
theorem dX9_of_14 : decode cX9_of 14 = .ok (.goto 4, 3) := dq daX9_of_0 (i := 8) rfl
theorem dX9_of_17 : decode cX9_of 17 = .ok (.iconst (-1), 1) := dq daX9_of_0 (i := 9) rfl
theorem dX9_of_18 : decode cX9_of 18 = .ok (.ireturn, 1) := dq daX9_of_0 (i := 10) rfl
theorem daX9_line_0 : dchk cX9_line [(0, .iload_n 0, 1), (1, .ifCond .ne 7, 3), (4, .lconst 1, 1), (5, .goto 17, 3), (8, .iload_n 0, 1), (9, .iconst 1, 1), (10, .if_icmp .ne 9, 3), (13, .ldc2_w 134, 3), (16, .goto 6, 3), (19, .ldc2_w 136, 3), (22, .lreturn, 1)] = true := by decide +kernel
theorem dX9_line_0 : decode cX9_line 0 = .ok (.iload_n 0, 1) := dq daX9_line_0 (i := 0) rfl
theorem dX9_line_1 : decode cX9_line 1 = .ok (.ifCond .ne 7, 3) := dq daX9_line_0 (i := 1) rfl
theorem dX9_line_4 : decode cX9_line 4 = .ok (.lconst 1, 1) := dq daX9_line_0 (i := 2) rfl
theorem dX9_line_5 : decode cX9_line 5 = .ok (.goto 17, 3) := dq daX9_line_0 (i := 3) rfl
theorem dX9_line_8 : decode cX9_line 8 = .ok (.iload_n 0, 1) := dq daX9_line_0 (i := 4) rfl
theorem dX9_line_9 : decode cX9_line 9 = .ok (.iconst 1, 1) := dq daX9_line_0 (i := 5) rfl
theorem dX9_line_10 : decode cX9_line 10 = .ok (.if_icmp .ne 9, 3) := dq daX9_line_0 (i := 6) rfl
theorem dX9_line_13 : decode cX9_line 13 = .ok (.ldc2_w 134, 3) := dq daX9_line_0 (i := 7) rfl
theorem dX9_line_16 : decode cX9_line 16 = .ok (.goto 6, 3) := dq daX9_line_0 (i := 8) rfl
theorem dX9_line_19 : decode cX9_line 19 = .ok (.ldc2_w 136, 3) := dq daX9_line_0 (i := 9) rfl
theorem dX9_line_22 : decode cX9_line 22 = .ok (.lreturn, 1) := dq daX9_line_0 (i := 10) rfl
theorem daX9_isNothing_0 : dchk cX9_isNothing [(0, .iconst 0, 1), (1, .istore 4, 2), (3, .iconst 0, 1), (4, .istore 5, 2), (6, .iload 5, 2), (8, .iload_n 3, 1), (9, .if_icmp .ge 20, 3), (12, .iload 4, 2), (14, .aload_n 1, 1), (15, .iload_n 2, 1), (16, .iload 5, 2), (18, .iadd, 1), (19, .iaload, 1), (20, .iadd, 1), (21, .istore 4, 2), (23, .iinc 5 1, 3), (26, .goto (-20), 3), (29, .iconst 2, 1), (30, .iload_n 0, 1), (31, .imul, 1), (32, .iconst 2, 1), (33, .isub, 1), (34, .iload_n 3, 1), (35, .iadd, 1), (36, .ifCond .le 15, 3), (39, .iload 4, 2), (41, .iconst 3, 1), (42, .iload_n 0, 1), (43, .imul, 1), (44, .iconst 3, 1), (45, .isub, 1), (46, .iload_n 3, 1), (47, .iadd, 1), (48, .if_icmp .eq 7, 3), (51, .iconst 1, 1), (52, .goto 4, 3), (55, .iconst 0, 1), (56, .ireturn, 1)] = true := by decide +kernel
theorem dX9_isNothing_0 : decode cX9_isNothing 0 = .ok (.iconst 0, 1) := dq daX9_isNothing_0 (i := 0) rfl
theorem dX9_isNothing_1 : decode cX9_isNothing 1 = .ok (.istore 4, 2) := dq daX9_isNothing_0 (i := 1) rfl
theorem dX9_isNothing_3 : decode cX9_isNothing 3 = .ok (.iconst 0, 1) := dq daX9_isNothing_0 (i := 2) rfl
theorem dX9_isNothing_4 : decode cX9_isNothing 4 = .ok (.istore 5, 2) := dq daX9_isNothing_0 (i := 3) rfl
theorem dX9_isNothing_6 : decode cX9_isNothing 6 = .ok (.iload 5, 2) := dq daX9_isNothing_0 (i := 4) rfl
theorem dX9_isNothing_8 : decode cX9_isNothing 8 = .ok (.iload_n 3, 1) := dq daX9_isNothing_0 (i := 5) rfl
theorem dX9_isNothing_9 : decode cX9_isNothing 9 = .ok (.if_icmp .ge 20, 3) := dq daX9_isNothing_0 (i := 6) rfl
theorem dX9_isNothing_12 : decode cX9_isNothing 12 = .ok (.iload 4, 2) := dq daX9_isNothing_0 (i := 7) rfl
theorem dX9_isNothing_14 : decode cX9_isNothing 14 = .ok (.aload_n 1, 1) := dq daX9_isNothing_0 (i := 8) rfl
theorem dX9_isNothing_15 : decode cX9_isNothing 15 = .ok (.iload_n 2, 1) := dq daX9_isNothing_0 (i := 9) rfl
theorem dX9_isNothing_16 : decode cX9_isNothing 16 = .ok (.iload 5, 2) := dq daX9_isNothing_0 (i := 10) rfl
theorem dX9_isNothing_18 : decode cX9_isNothing 18 = .ok (.iadd, 1) := dq daX9_isNothing_0 (i := 11) rfl
theorem dX9_isNothing_19 : decode cX9_isNothing 19 = .ok (.iaload, 1) := dq daX9_isNothing_0 (i := 12) rfl
theorem dX9_isNothing_20 : decode cX9_isNothing 20 = .ok (.iadd, 1) := dq daX9_isNothing_0 (i := 13) rfl
theorem dX9_isNothing_21 : decode cX9_isNothing 21 = .ok (.istore 4, 2) := dq daX9_isNothing_0 (i := 14) rfl
theorem dX9_isNothing_23 : decode cX9_isNothing 23 = .ok (.iinc 5 1, 3) := dq daX9_isNothing_0 (i := 15) rfl
theorem dX9_isNothing_26 : decode cX9_isNothing 26 = .ok (.goto (-20), 3) := dq daX9_isNothing_0 (i := 16) rfl
theorem dX9_isNothing_29 : decode cX9_isNothing 29 = .ok (.iconst 2, 1) := dq daX9_isNothing_0 (i := 17) rfl
theorem dX9_isNothing_30 : decode cX9_isNothing 30 = .ok (.iload_n 0, 1) := dq daX9_isNothing_0 (i := 18) rfl
theorem dX9_isNothing_31 : decode cX9_isNothing 31 = .ok (.imul, 1) := dq daX9_isNothing_0 (i := 19) rfl
theorem dX9_isNothing_32 : decode cX9_isNothing 32 = .ok (.iconst 2, 1) := dq daX9_isNothing_0 (i := 20) rfl
theorem dX9_isNothing_33 : decode cX9_isNothing 33 = .ok (.isub, 1) := dq daX9_isNothing_0 (i := 21) rfl
theorem dX9_isNothing_34 : decode cX9_isNothing 34 = .ok (.iload_n 3, 1) := dq daX9_isNothing_0 (i := 22) rfl
theorem dX9_isNothing_35 : decode cX9_isNothing 35 = .ok (.iadd, 1) := dq daX9_isNothing_0 (i := 23) rfl
theorem dX9_isNothing_36 : decode cX9_isNothing 36 = .ok (.ifCond .le 15, 3) := dq daX9_isNothing_0 (i := 24) rfl
theorem dX9_isNothing_39 : decode cX9_isNothing 39 = .ok (.iload 4, 2) := dq daX9_isNothing_0 (i := 25) rfl
theorem dX9_isNothing_41 : decode cX9_isNothing 41 = .ok (.iconst 3, 1) := dq daX9_isNothing_0 (i := 26) rfl
theorem dX9_isNothing_42 : decode cX9_isNothing 42 = .ok (.iload_n 0, 1) := dq daX9_isNothing_0 (i := 27) rfl
theorem dX9_isNothing_43 : decode cX9_isNothing 43 = .ok (.imul, 1) := dq daX9_isNothing_0 (i := 28) rfl
theorem dX9_isNothing_44 : decode cX9_isNothing 44 = .ok (.iconst 3, 1) := dq daX9_isNothing_0 (i := 29) rfl
theorem dX9_isNothing_45 : decode cX9_isNothing 45 = .ok (.isub, 1) := dq daX9_isNothing_0 (i := 30) rfl
theorem dX9_isNothing_46 : decode cX9_isNothing 46 = .ok (.iload_n 3, 1) := dq daX9_isNothing_0 (i := 31) rfl
theorem dX9_isNothing_47 : decode cX9_isNothing 47 = .ok (.iadd, 1) := dq daX9_isNothing_0 (i := 32) rfl
theorem dX9_isNothing_48 : decode cX9_isNothing 48 = .ok (.if_icmp .eq 7, 3) := dq daX9_isNothing_0 (i := 33) rfl
theorem dX9_isNothing_51 : decode cX9_isNothing 51 = .ok (.iconst 1, 1) := dq daX9_isNothing_0 (i := 34) rfl
theorem dX9_isNothing_52 : decode cX9_isNothing 52 = .ok (.goto 4, 3) := dq daX9_isNothing_0 (i := 35) rfl
theorem dX9_isNothing_55 : decode cX9_isNothing 55 = .ok (.iconst 0, 1) := dq daX9_isNothing_0 (i := 36) rfl
theorem dX9_isNothing_56 : decode cX9_isNothing 56 = .ok (.ireturn, 1) := dq daX9_isNothing_0 (i := 37) rfl
theorem daX9_often_0 : dchk cX9_often [(0, .iconst 0, 1), (1, .istore 4, 2), (3, .iconst 0, 1), (4, .istore 5, 2), (6, .iload 5, 2), (8, .iload_n 2, 1), (9, .if_icmp .ge 29, 3), (12, .iload 4, 2), (14, .aload_n 0, 1), (15, .iload_n 1, 1), (16, .iload 5, 2), (18, .iadd, 1), (19, .iaload, 1), (20, .iload_n 3, 1), (21, .if_icmp .ne 7, 3), (24, .iconst 1, 1), (25, .goto 4, 3), (28, .iconst 0, 1), (29, .iadd, 1), (30, .istore 4, 2), (32, .iinc 5 1, 3), (35, .goto (-29), 3), (38, .iload 4, 2), (40, .ireturn, 1)] = true := by decide +kernel
theorem dX9_often_0 : decode cX9_often 0 = .ok (.iconst 0, 1) := dq daX9_often_0 (i := 0) rfl
theorem dX9_often_1 : decode cX9_often 1 = .ok (.istore 4, 2) := dq daX9_often_0 (i := 1) rfl
theorem dX9_often_3 : decode cX9_often 3 = .ok (.iconst 0, 1) := dq daX9_often_0 (i := 2) rfl
theorem dX9_often_4 : decode cX9_often 4 = .ok (.istore 5, 2) := dq daX9_often_0 (i := 3) rfl
theorem dX9_often_6 : decode cX9_often 6 = .ok (.iload 5, 2) := dq daX9_often_0 (i := 4) rfl
theorem dX9_often_8 : decode cX9_often 8 = .ok (.iload_n 2, 1) := dq daX9_often_0 (i := 5) rfl
theorem dX9_often_9 : decode cX9_often 9 = .ok (.if_icmp .ge 29, 3) := dq daX9_often_0 (i := 6) rfl
theorem dX9_often_12 : decode cX9_often 12 = .ok (.iload 4, 2) := dq daX9_often_0 (i := 7) rfl
theorem dX9_often_14 : decode cX9_often 14 = .ok (.aload_n 0, 1) := dq daX9_often_0 (i := 8) rfl
theorem dX9_often_15 : decode cX9_often 15 = .ok (.iload_n 1, 1) := dq daX9_often_0 (i := 9) rfl
theorem dX9_often_16 : decode cX9_often 16 = .ok (.iload 5, 2) := dq daX9_often_0 (i := 10) rfl
theorem dX9_often_18 : decode cX9_often 18 = .ok (.iadd, 1) := dq daX9_often_0 (i := 11) rfl
theorem dX9_often_19 : decode cX9_often 19 = .ok (.iaload, 1) := dq daX9_often_0 (i := 12) rfl
theorem dX9_often_20 : decode cX9_often 20 = .ok (.iload_n 3, 1) := dq daX9_often_0 (i := 13) rfl
theorem dX9_often_21 : decode cX9_often 21 = .ok (.if_icmp .ne 7, 3) := dq daX9_often_0 (i := 14) rfl
theorem dX9_often_24 : decode cX9_often 24 = .ok (.iconst 1, 1) := dq daX9_often_0 (i := 15) rfl
theorem dX9_often_25 : decode cX9_often 25 = .ok (.goto 4, 3) := dq daX9_often_0 (i := 16) rfl
theorem dX9_often_28 : decode cX9_often 28 = .ok (.iconst 0, 1) := dq daX9_often_0 (i := 17) rfl
theorem dX9_often_29 : decode cX9_often 29 = .ok (.iadd, 1) := dq daX9_often_0 (i := 18) rfl
theorem dX9_often_30 : decode cX9_often 30 = .ok (.istore 4, 2) := dq daX9_often_0 (i := 19) rfl
theorem dX9_often_32 : decode cX9_often 32 = .ok (.iinc 5 1, 3) := dq daX9_often_0 (i := 20) rfl
theorem dX9_often_35 : decode cX9_often 35 = .ok (.goto (-29), 3) := dq daX9_often_0 (i := 21) rfl
theorem dX9_often_38 : decode cX9_often 38 = .ok (.iload 4, 2) := dq daX9_often_0 (i := 22) rfl
theorem dX9_often_40 : decode cX9_often 40 = .ok (.ireturn, 1) := dq daX9_often_0 (i := 23) rfl
theorem daX9_base_0 : dchk cX9_base [(0, .iload_n 0, 1), (1, .ifCond .ne 27, 3), (4, .iload_n 3, 1), (5, .iconst 3, 1), (6, .if_icmp .ne 18, 3), (9, .aload_n 1, 1), (10, .iload_n 2, 1), (11, .iload_n 3, 1), (12, .iconst 0, 1), (13, .invokestatic 138, 3), (16, .iconst 3, 1), (17, .if_icmp .ne 7, 3), (20, .lconst 1, 1), (21, .goto 6, 3), (24, .ldc2_w 142, 3), (27, .lreturn, 1), (28, .iload_n 0, 1), (29, .iconst 1, 1), (30, .if_icmp .ne 23, 3), (33, .iload_n 3, 1), (34, .iconst 1, 1), (35, .if_icmp .ne 14, 3), (38, .aload_n 1, 1), (39, .iload_n 2, 1), (40, .iaload, 1), (41, .iconst 1, 1), (42, .if_icmp .ne 7, 3), (45, .lconst 1, 1), (46, .goto 6, 3), (49, .ldc2_w 142, 3), (52, .lreturn, 1), (53, .iload_n 3, 1), (54, .iconst 1, 1), (55, .if_icmp .ne 14, 3), (58, .aload_n 1, 1), (59, .iload_n 2, 1), (60, .iaload, 1), (61, .iconst 4, 1), (62, .if_icmp .ne 7, 3), (65, .ldc2_w 144, 3)] = true := by decide +kernel
theorem dX9_base_0 : decode cX9_base 0 = .ok (.iload_n 0, 1) := dq daX9_base_0 (i := 0) rfl
theorem dX9_base_1 : decode cX9_base 1 = .ok (.ifCond .ne 27, 3) := dq daX9_base_0 (i := 1) rfl
theorem dX9_base_4 : decode cX9_base 4 = .ok (.iload_n 3, 1) := dq daX9_base_0 (i := 2) rfl
theorem dX9_base_5 : decode cX9_base 5 = .ok (.iconst 3, 1) := dq daX9_base_0 (i := 3) rfl
theorem dX9_base_6 : decode cX9_base 6 = .ok (.if_icmp .ne 18, 3) := dq daX9_base_0 (i := 4) rfl
theorem dX9_base_9 : decode cX9_base 9 = .ok (.aload_n 1, 1) := dq daX9_base_0 (i := 5) rfl
theorem dX9_base_10 : decode cX9_base 10 = .ok (.iload_n 2, 1) := dq daX9_base_0 (i := 6) rfl
theorem dX9_base_11 : decode cX9_base 11 = .ok (.iload_n 3, 1) := dq daX9_base_0 (i := 7) rfl
theorem dX9_base_12 : decode cX9_base 12 = .ok (.iconst 0, 1) := dq daX9_base_0 (i := 8) rfl
theorem dX9_base_13 : decode cX9_base 13 = .ok (.invokestatic 138, 3) := dq daX9_base_0 (i := 9) rfl
theorem dX9_base_16 : decode cX9_base 16 = .ok (.iconst 3, 1) := dq daX9_base_0 (i := 10) rfl
theorem dX9_base_17 : decode cX9_base 17 = .ok (.if_icmp .ne 7, 3) := dq daX9_base_0 (i := 11) rfl
theorem dX9_base_20 : decode cX9_base 20 = .ok (.lconst 1, 1) := dq daX9_base_0 (i := 12) rfl
theorem dX9_base_21 : decode cX9_base 21 = .ok (.goto 6, 3) := dq daX9_base_0 (i := 13) rfl
theorem dX9_base_24 : decode cX9_base 24 = .ok (.ldc2_w 142, 3) := dq daX9_base_0 (i := 14) rfl
theorem dX9_base_27 : decode cX9_base 27 = .ok (.lreturn, 1) := dq daX9_base_0 (i := 15) rfl
theorem dX9_base_28 : decode cX9_base 28 = .ok (.iload_n 0, 1) := dq daX9_base_0 (i := 16) rfl
theorem dX9_base_29 : decode cX9_base 29 = .ok (.iconst 1, 1) := dq daX9_base_0 (i := 17) rfl
theorem dX9_base_30 : decode cX9_base 30 = .ok (.if_icmp .ne 23, 3) := dq daX9_base_0 (i := 18) rfl
theorem dX9_base_33 : decode cX9_base 33 = .ok (.iload_n 3, 1) := dq daX9_base_0 (i := 19) rfl
theorem dX9_base_34 : decode cX9_base 34 = .ok (.iconst 1, 1) := dq daX9_base_0 (i := 20) rfl
theorem dX9_base_35 : decode cX9_base 35 = .ok (.if_icmp .ne 14, 3) := dq daX9_base_0 (i := 21) rfl
theorem dX9_base_38 : decode cX9_base 38 = .ok (.aload_n 1, 1) := dq daX9_base_0 (i := 22) rfl
theorem dX9_base_39 : decode cX9_base 39 = .ok (.iload_n 2, 1) := dq daX9_base_0 (i := 23) rfl
theorem dX9_base_40 : decode cX9_base 40 = .ok (.iaload, 1) := dq daX9_base_0 (i := 24) rfl
theorem dX9_base_41 : decode cX9_base 41 = .ok (.iconst 1, 1) := dq daX9_base_0 (i := 25) rfl
theorem dX9_base_42 : decode cX9_base 42 = .ok (.if_icmp .ne 7, 3) := dq daX9_base_0 (i := 26) rfl
theorem dX9_base_45 : decode cX9_base 45 = .ok (.lconst 1, 1) := dq daX9_base_0 (i := 27) rfl
theorem dX9_base_46 : decode cX9_base 46 = .ok (.goto 6, 3) := dq daX9_base_0 (i := 28) rfl
theorem dX9_base_49 : decode cX9_base 49 = .ok (.ldc2_w 142, 3) := dq daX9_base_0 (i := 29) rfl
theorem dX9_base_52 : decode cX9_base 52 = .ok (.lreturn, 1) := dq daX9_base_0 (i := 30) rfl
theorem dX9_base_53 : decode cX9_base 53 = .ok (.iload_n 3, 1) := dq daX9_base_0 (i := 31) rfl
theorem dX9_base_54 : decode cX9_base 54 = .ok (.iconst 1, 1) := dq daX9_base_0 (i := 32) rfl
theorem dX9_base_55 : decode cX9_base 55 = .ok (.if_icmp .ne 14, 3) := dq daX9_base_0 (i := 33) rfl
theorem dX9_base_58 : decode cX9_base 58 = .ok (.aload_n 1, 1) := dq daX9_base_0 (i := 34) rfl
theorem dX9_base_59 : decode cX9_base 59 = .ok (.iload_n 2, 1) := dq daX9_base_0 (i := 35) rfl
theorem dX9_base_60 : decode cX9_base 60 = .ok (.iaload, 1) := dq daX9_base_0 (i := 36) rfl
theorem dX9_base_61 : decode cX9_base 61 = .ok (.iconst 4, 1) := dq daX9_base_0 (i := 37) rfl
theorem dX9_base_62 : decode cX9_base 62 = .ok (.if_icmp .ne 7, 3) := dq daX9_base_0 (i := 38) rfl
theorem dX9_base_65 : decode cX9_base 65 = .ok (.ldc2_w 144, 3) := dq daX9_base_0 (i := 39) rfl
theorem daX9_base_40 : dchk cX9_base [(68, .lreturn, 1), (69, .iload_n 3, 1), (70, .iconst 2, 1), (71, .if_icmp .ne 29, 3), (74, .aload_n 1, 1), (75, .iload_n 2, 1), (76, .iload_n 3, 1), (77, .iconst 2, 1), (78, .invokestatic 138, 3), (81, .iconst 1, 1), (82, .if_icmp .ne 18, 3), (85, .aload_n 1, 1), (86, .iload_n 2, 1), (87, .iload_n 3, 1), (88, .iconst 3, 1), (89, .invokestatic 138, 3), (92, .iconst 1, 1), (93, .if_icmp .ne 7, 3), (96, .ldc2_w 146, 3), (99, .lreturn, 1), (100, .iload_n 3, 1), (101, .iconst 3, 1), (102, .if_icmp .ne 20, 3), (105, .aload_n 1, 1), (106, .iload_n 2, 1), (107, .iload_n 3, 1), (108, .iconst 2, 1), (109, .invokestatic 138, 3), (112, .iconst 3, 1), (113, .if_icmp .ne 9, 3), (116, .ldc2_w 148, 3), (119, .goto 6, 3), (122, .ldc2_w 142, 3), (125, .lreturn, 1)] = true := by decide +kernel
theorem dX9_base_68 : decode cX9_base 68 = .ok (.lreturn, 1) := dq daX9_base_40 (i := 0) rfl
theorem dX9_base_69 : decode cX9_base 69 = .ok (.iload_n 3, 1) := dq daX9_base_40 (i := 1) rfl
theorem dX9_base_70 : decode cX9_base 70 = .ok (.iconst 2, 1) := dq daX9_base_40 (i := 2) rfl
theorem dX9_base_71 : decode cX9_base 71 = .ok (.if_icmp .ne 29, 3) := dq daX9_base_40 (i := 3) rfl
theorem dX9_base_74 : decode cX9_base 74 = .ok (.aload_n 1, 1) := dq daX9_base_40 (i := 4) rfl
theorem dX9_base_75 : decode cX9_base 75 = .ok (.iload_n 2, 1) := dq daX9_base_40 (i := 5) rfl
theorem dX9_base_76 : decode cX9_base 76 = .ok (.iload_n 3, 1) := dq daX9_base_40 (i := 6) rfl
theorem dX9_base_77 : decode cX9_base 77 = .ok (.iconst 2, 1) := dq daX9_base_40 (i := 7) rfl
theorem dX9_base_78 : decode cX9_base 78 = .ok (.invokestatic 138, 3) := dq daX9_base_40 (i := 8) rfl
theorem dX9_base_81 : decode cX9_base 81 = .ok (.iconst 1, 1) := dq daX9_base_40 (i := 9) rfl
theorem dX9_base_82 : decode cX9_base 82 = .ok (.if_icmp .ne 18, 3) := dq daX9_base_40 (i := 10) rfl
theorem dX9_base_85 : decode cX9_base 85 = .ok (.aload_n 1, 1) := dq daX9_base_40 (i := 11) rfl
theorem dX9_base_86 : decode cX9_base 86 = .ok (.iload_n 2, 1) := dq daX9_base_40 (i := 12) rfl
theorem dX9_base_87 : decode cX9_base 87 = .ok (.iload_n 3, 1) := dq daX9_base_40 (i := 13) rfl
theorem dX9_base_88 : decode cX9_base 88 = .ok (.iconst 3, 1) := dq daX9_base_40 (i := 14) rfl
theorem dX9_base_89 : decode cX9_base 89 = .ok (.invokestatic 138, 3) := dq daX9_base_40 (i := 15) rfl
theorem dX9_base_92 : decode cX9_base 92 = .ok (.iconst 1, 1) := dq daX9_base_40 (i := 16) rfl
theorem dX9_base_93 : decode cX9_base 93 = .ok (.if_icmp .ne 7, 3) := dq daX9_base_40 (i := 17) rfl
theorem dX9_base_96 : decode cX9_base 96 = .ok (.ldc2_w 146, 3) := dq daX9_base_40 (i := 18) rfl
theorem dX9_base_99 : decode cX9_base 99 = .ok (.lreturn, 1) := dq daX9_base_40 (i := 19) rfl
theorem dX9_base_100 : decode cX9_base 100 = .ok (.iload_n 3, 1) := dq daX9_base_40 (i := 20) rfl
theorem dX9_base_101 : decode cX9_base 101 = .ok (.iconst 3, 1) := dq daX9_base_40 (i := 21) rfl
theorem dX9_base_102 : decode cX9_base 102 = .ok (.if_icmp .ne 20, 3) := dq daX9_base_40 (i := 22) rfl
theorem dX9_base_105 : decode cX9_base 105 = .ok (.aload_n 1, 1) := dq daX9_base_40 (i := 23) rfl
theorem dX9_base_106 : decode cX9_base 106 = .ok (.iload_n 2, 1) := dq daX9_base_40 (i := 24) rfl
theorem dX9_base_107 : decode cX9_base 107 = .ok (.iload_n 3, 1) := dq daX9_base_40 (i := 25) rfl
theorem dX9_base_108 : decode cX9_base 108 = .ok (.iconst 2, 1) := dq daX9_base_40 (i := 26) rfl
theorem dX9_base_109 : decode cX9_base 109 = .ok (.invokestatic 138, 3) := dq daX9_base_40 (i := 27) rfl
theorem dX9_base_112 : decode cX9_base 112 = .ok (.iconst 3, 1) := dq daX9_base_40 (i := 28) rfl
theorem dX9_base_113 : decode cX9_base 113 = .ok (.if_icmp .ne 9, 3) := dq daX9_base_40 (i := 29) rfl
theorem dX9_base_116 : decode cX9_base 116 = .ok (.ldc2_w 148, 3) := dq daX9_base_40 (i := 30) rfl
theorem dX9_base_119 : decode cX9_base 119 = .ok (.goto 6, 3) := dq daX9_base_40 (i := 31) rfl
theorem dX9_base_122 : decode cX9_base 122 = .ok (.ldc2_w 142, 3) := dq daX9_base_40 (i := 32) rfl
theorem dX9_base_125 : decode cX9_base 125 = .ok (.lreturn, 1) := dq daX9_base_40 (i := 33) rfl
theorem daX9_leaves_0 : dchk cX9_leaves [(0, .iconst 0, 1), (1, .istore 6, 2), (3, .iconst 1, 1), (4, .istore 7, 2), (6, .iload 4, 2), (8, .ifCond .le 7, 3), (11, .iconst 1, 1), (12, .goto 4, 3), (15, .iconst 0, 1), (16, .istore 8, 2), (18, .iconst 0, 1), (19, .istore 9, 2), (21, .iload 9, 2), (23, .iload_n 2, 1), (24, .if_icmp .ge 64, 3), (27, .aload_n 0, 1), (28, .iload_n 1, 1), (29, .iload 9, 2), (31, .iadd, 1), (32, .iaload, 1), (33, .istore 10, 2), (35, .iload 7, 2), (37, .ifCond .eq 15, 3), (40, .iload 10, 2), (42, .iload_n 3, 1), (43, .if_icmp .ne 9, 3), (46, .iconst 0, 1), (47, .istore 7, 2), (49, .goto 33, 3), (52, .iload 8, 2), (54, .ifCond .eq 16, 3), (57, .iload 10, 2), (59, .iload 4, 2), (61, .if_icmp .ne 9, 3), (64, .iconst 0, 1), (65, .istore 8, 2), (67, .iinc 10 (-1), 3), (70, .aload_n 0, 1), (71, .iload 5, 2), (73, .iload 6, 2)] = true := by decide +kernel
theorem dX9_leaves_0 : decode cX9_leaves 0 = .ok (.iconst 0, 1) := dq daX9_leaves_0 (i := 0) rfl
theorem dX9_leaves_1 : decode cX9_leaves 1 = .ok (.istore 6, 2) := dq daX9_leaves_0 (i := 1) rfl
theorem dX9_leaves_3 : decode cX9_leaves 3 = .ok (.iconst 1, 1) := dq daX9_leaves_0 (i := 2) rfl
theorem dX9_leaves_4 : decode cX9_leaves 4 = .ok (.istore 7, 2) := dq daX9_leaves_0 (i := 3) rfl
theorem dX9_leaves_6 : decode cX9_leaves 6 = .ok (.iload 4, 2) := dq daX9_leaves_0 (i := 4) rfl
theorem dX9_leaves_8 : decode cX9_leaves 8 = .ok (.ifCond .le 7, 3) := dq daX9_leaves_0 (i := 5) rfl
theorem dX9_leaves_11 : decode cX9_leaves 11 = .ok (.iconst 1, 1) := dq daX9_leaves_0 (i := 6) rfl
theorem dX9_leaves_12 : decode cX9_leaves 12 = .ok (.goto 4, 3) := dq daX9_leaves_0 (i := 7) rfl
theorem dX9_leaves_15 : decode cX9_leaves 15 = .ok (.iconst 0, 1) := dq daX9_leaves_0 (i := 8) rfl
theorem dX9_leaves_16 : decode cX9_leaves 16 = .ok (.istore 8, 2) := dq daX9_leaves_0 (i := 9) rfl
theorem dX9_leaves_18 : decode cX9_leaves 18 = .ok (.iconst 0, 1) := dq daX9_leaves_0 (i := 10) rfl
theorem dX9_leaves_19 : decode cX9_leaves 19 = .ok (.istore 9, 2) := dq daX9_leaves_0 (i := 11) rfl
theorem dX9_leaves_21 : decode cX9_leaves 21 = .ok (.iload 9, 2) := dq daX9_leaves_0 (i := 12) rfl
theorem dX9_leaves_23 : decode cX9_leaves 23 = .ok (.iload_n 2, 1) := dq daX9_leaves_0 (i := 13) rfl
theorem dX9_leaves_24 : decode cX9_leaves 24 = .ok (.if_icmp .ge 64, 3) := dq daX9_leaves_0 (i := 14) rfl
theorem dX9_leaves_27 : decode cX9_leaves 27 = .ok (.aload_n 0, 1) := dq daX9_leaves_0 (i := 15) rfl
theorem dX9_leaves_28 : decode cX9_leaves 28 = .ok (.iload_n 1, 1) := dq daX9_leaves_0 (i := 16) rfl
theorem dX9_leaves_29 : decode cX9_leaves 29 = .ok (.iload 9, 2) := dq daX9_leaves_0 (i := 17) rfl
theorem dX9_leaves_31 : decode cX9_leaves 31 = .ok (.iadd, 1) := dq daX9_leaves_0 (i := 18) rfl
theorem dX9_leaves_32 : decode cX9_leaves 32 = .ok (.iaload, 1) := dq daX9_leaves_0 (i := 19) rfl
theorem dX9_leaves_33 : decode cX9_leaves 33 = .ok (.istore 10, 2) := dq daX9_leaves_0 (i := 20) rfl
theorem dX9_leaves_35 : decode cX9_leaves 35 = .ok (.iload 7, 2) := dq daX9_leaves_0 (i := 21) rfl
theorem dX9_leaves_37 : decode cX9_leaves 37 = .ok (.ifCond .eq 15, 3) := dq daX9_leaves_0 (i := 22) rfl
theorem dX9_leaves_40 : decode cX9_leaves 40 = .ok (.iload 10, 2) := dq daX9_leaves_0 (i := 23) rfl
theorem dX9_leaves_42 : decode cX9_leaves 42 = .ok (.iload_n 3, 1) := dq daX9_leaves_0 (i := 24) rfl
theorem dX9_leaves_43 : decode cX9_leaves 43 = .ok (.if_icmp .ne 9, 3) := dq daX9_leaves_0 (i := 25) rfl
theorem dX9_leaves_46 : decode cX9_leaves 46 = .ok (.iconst 0, 1) := dq daX9_leaves_0 (i := 26) rfl
theorem dX9_leaves_47 : decode cX9_leaves 47 = .ok (.istore 7, 2) := dq daX9_leaves_0 (i := 27) rfl
theorem dX9_leaves_49 : decode cX9_leaves 49 = .ok (.goto 33, 3) := dq daX9_leaves_0 (i := 28) rfl
theorem dX9_leaves_52 : decode cX9_leaves 52 = .ok (.iload 8, 2) := dq daX9_leaves_0 (i := 29) rfl
theorem dX9_leaves_54 : decode cX9_leaves 54 = .ok (.ifCond .eq 16, 3) := dq daX9_leaves_0 (i := 30) rfl
theorem dX9_leaves_57 : decode cX9_leaves 57 = .ok (.iload 10, 2) := dq daX9_leaves_0 (i := 31) rfl
theorem dX9_leaves_59 : decode cX9_leaves 59 = .ok (.iload 4, 2) := dq daX9_leaves_0 (i := 32) rfl
theorem dX9_leaves_61 : decode cX9_leaves 61 = .ok (.if_icmp .ne 9, 3) := dq daX9_leaves_0 (i := 33) rfl
theorem dX9_leaves_64 : decode cX9_leaves 64 = .ok (.iconst 0, 1) := dq daX9_leaves_0 (i := 34) rfl
theorem dX9_leaves_65 : decode cX9_leaves 65 = .ok (.istore 8, 2) := dq daX9_leaves_0 (i := 35) rfl
theorem dX9_leaves_67 : decode cX9_leaves 67 = .ok (.iinc 10 (-1), 3) := dq daX9_leaves_0 (i := 36) rfl
theorem dX9_leaves_70 : decode cX9_leaves 70 = .ok (.aload_n 0, 1) := dq daX9_leaves_0 (i := 37) rfl
theorem dX9_leaves_71 : decode cX9_leaves 71 = .ok (.iload 5, 2) := dq daX9_leaves_0 (i := 38) rfl
theorem dX9_leaves_73 : decode cX9_leaves 73 = .ok (.iload 6, 2) := dq daX9_leaves_0 (i := 39) rfl
theorem daX9_leaves_40 : dchk cX9_leaves [(75, .iadd, 1), (76, .iload 10, 2), (78, .iastore, 1), (79, .iinc 6 1, 3), (82, .iinc 9 1, 3), (85, .goto (-64), 3), (88, .return_, 1)] = true := by decide +kernel
theorem dX9_leaves_75 : decode cX9_leaves 75 = .ok (.iadd, 1) := dq daX9_leaves_40 (i := 0) rfl
theorem dX9_leaves_76 : decode cX9_leaves 76 = .ok (.iload 10, 2) := dq daX9_leaves_40 (i := 1) rfl
theorem dX9_leaves_78 : decode cX9_leaves 78 = .ok (.iastore, 1) := dq daX9_leaves_40 (i := 2) rfl
theorem dX9_leaves_79 : decode cX9_leaves 79 = .ok (.iinc 6 1, 3) := dq daX9_leaves_40 (i := 3) rfl
theorem dX9_leaves_82 : decode cX9_leaves 82 = .ok (.iinc 9 1, 3) := dq daX9_leaves_40 (i := 4) rfl
theorem dX9_leaves_85 : decode cX9_leaves 85 = .ok (.goto (-64), 3) := dq daX9_leaves_40 (i := 5) rfl
theorem dX9_leaves_88 : decode cX9_leaves 88 = .ok (.return_, 1) := dq daX9_leaves_40 (i := 6) rfl
theorem daX9_numberAt_0 : dchk cX9_numberAt [(0, .iload_n 2, 1), (1, .bipush 12, 2), (3, .imul, 1), (4, .istore 4, 2), (6, .iload_n 1, 1), (7, .aload_n 0, 1), (8, .getfield 31, 3), (11, .iload 4, 2), (13, .iload_n 3, 1), (14, .invokestatic 150, 3), (17, .lstore 5, 2), (19, .lload 5, 2), (21, .lconst 0, 1), (22, .lcmp, 1), (23, .ifCond .lt 6, 3), (26, .lload 5, 2), (28, .lreturn, 1), (29, .aload_n 0, 1), (30, .getfield 31, 3), (33, .iload 4, 2), (35, .iload_n 3, 1), (36, .iconst 0, 1), (37, .invokestatic 138, 3), (40, .ifCond .ne 48, 3), (43, .aload_n 0, 1), (44, .getfield 31, 3), (47, .iload 4, 2), (49, .iload_n 3, 1), (50, .iconst 1, 1), (51, .iconst 0, 1), (52, .iload 4, 2), (54, .bipush 12, 2), (56, .iadd, 1), (57, .invokestatic 154, 3), (60, .ldc2_w 114, 3), (63, .iload_n 1, 1), (64, .i2l, 1), (65, .lmul, 1), (66, .ldc2_w 114, 3), (69, .lsub, 1)] = true := by decide +kernel
theorem dX9_numberAt_0 : decode cX9_numberAt 0 = .ok (.iload_n 2, 1) := dq daX9_numberAt_0 (i := 0) rfl
theorem dX9_numberAt_1 : decode cX9_numberAt 1 = .ok (.bipush 12, 2) := dq daX9_numberAt_0 (i := 1) rfl
theorem dX9_numberAt_3 : decode cX9_numberAt 3 = .ok (.imul, 1) := dq daX9_numberAt_0 (i := 2) rfl
theorem dX9_numberAt_4 : decode cX9_numberAt 4 = .ok (.istore 4, 2) := dq daX9_numberAt_0 (i := 3) rfl
theorem dX9_numberAt_6 : decode cX9_numberAt 6 = .ok (.iload_n 1, 1) := dq daX9_numberAt_0 (i := 4) rfl
theorem dX9_numberAt_7 : decode cX9_numberAt 7 = .ok (.aload_n 0, 1) := dq daX9_numberAt_0 (i := 5) rfl
theorem dX9_numberAt_8 : decode cX9_numberAt 8 = .ok (.getfield 31, 3) := dq daX9_numberAt_0 (i := 6) rfl
theorem dX9_numberAt_11 : decode cX9_numberAt 11 = .ok (.iload 4, 2) := dq daX9_numberAt_0 (i := 7) rfl
theorem dX9_numberAt_13 : decode cX9_numberAt 13 = .ok (.iload_n 3, 1) := dq daX9_numberAt_0 (i := 8) rfl
theorem dX9_numberAt_14 : decode cX9_numberAt 14 = .ok (.invokestatic 150, 3) := dq daX9_numberAt_0 (i := 9) rfl
theorem dX9_numberAt_17 : decode cX9_numberAt 17 = .ok (.lstore 5, 2) := dq daX9_numberAt_0 (i := 10) rfl
theorem dX9_numberAt_19 : decode cX9_numberAt 19 = .ok (.lload 5, 2) := dq daX9_numberAt_0 (i := 11) rfl
theorem dX9_numberAt_21 : decode cX9_numberAt 21 = .ok (.lconst 0, 1) := dq daX9_numberAt_0 (i := 12) rfl
theorem dX9_numberAt_22 : decode cX9_numberAt 22 = .ok (.lcmp, 1) := dq daX9_numberAt_0 (i := 13) rfl
theorem dX9_numberAt_23 : decode cX9_numberAt 23 = .ok (.ifCond .lt 6, 3) := dq daX9_numberAt_0 (i := 14) rfl
theorem dX9_numberAt_26 : decode cX9_numberAt 26 = .ok (.lload 5, 2) := dq daX9_numberAt_0 (i := 15) rfl
theorem dX9_numberAt_28 : decode cX9_numberAt 28 = .ok (.lreturn, 1) := dq daX9_numberAt_0 (i := 16) rfl
theorem dX9_numberAt_29 : decode cX9_numberAt 29 = .ok (.aload_n 0, 1) := dq daX9_numberAt_0 (i := 17) rfl
theorem dX9_numberAt_30 : decode cX9_numberAt 30 = .ok (.getfield 31, 3) := dq daX9_numberAt_0 (i := 18) rfl
theorem dX9_numberAt_33 : decode cX9_numberAt 33 = .ok (.iload 4, 2) := dq daX9_numberAt_0 (i := 19) rfl
theorem dX9_numberAt_35 : decode cX9_numberAt 35 = .ok (.iload_n 3, 1) := dq daX9_numberAt_0 (i := 20) rfl
theorem dX9_numberAt_36 : decode cX9_numberAt 36 = .ok (.iconst 0, 1) := dq daX9_numberAt_0 (i := 21) rfl
theorem dX9_numberAt_37 : decode cX9_numberAt 37 = .ok (.invokestatic 138, 3) := dq daX9_numberAt_0 (i := 22) rfl
theorem dX9_numberAt_40 : decode cX9_numberAt 40 = .ok (.ifCond .ne 48, 3) := dq daX9_numberAt_0 (i := 23) rfl
theorem dX9_numberAt_43 : decode cX9_numberAt 43 = .ok (.aload_n 0, 1) := dq daX9_numberAt_0 (i := 24) rfl
theorem dX9_numberAt_44 : decode cX9_numberAt 44 = .ok (.getfield 31, 3) := dq daX9_numberAt_0 (i := 25) rfl
theorem dX9_numberAt_47 : decode cX9_numberAt 47 = .ok (.iload 4, 2) := dq daX9_numberAt_0 (i := 26) rfl
theorem dX9_numberAt_49 : decode cX9_numberAt 49 = .ok (.iload_n 3, 1) := dq daX9_numberAt_0 (i := 27) rfl
theorem dX9_numberAt_50 : decode cX9_numberAt 50 = .ok (.iconst 1, 1) := dq daX9_numberAt_0 (i := 28) rfl
theorem dX9_numberAt_51 : decode cX9_numberAt 51 = .ok (.iconst 0, 1) := dq daX9_numberAt_0 (i := 29) rfl
theorem dX9_numberAt_52 : decode cX9_numberAt 52 = .ok (.iload 4, 2) := dq daX9_numberAt_0 (i := 30) rfl
theorem dX9_numberAt_54 : decode cX9_numberAt 54 = .ok (.bipush 12, 2) := dq daX9_numberAt_0 (i := 31) rfl
theorem dX9_numberAt_56 : decode cX9_numberAt 56 = .ok (.iadd, 1) := dq daX9_numberAt_0 (i := 32) rfl
theorem dX9_numberAt_57 : decode cX9_numberAt 57 = .ok (.invokestatic 154, 3) := dq daX9_numberAt_0 (i := 33) rfl
theorem dX9_numberAt_60 : decode cX9_numberAt 60 = .ok (.ldc2_w 114, 3) := dq daX9_numberAt_0 (i := 34) rfl
theorem dX9_numberAt_63 : decode cX9_numberAt 63 = .ok (.iload_n 1, 1) := dq daX9_numberAt_0 (i := 35) rfl
theorem dX9_numberAt_64 : decode cX9_numberAt 64 = .ok (.i2l, 1) := dq daX9_numberAt_0 (i := 36) rfl
theorem dX9_numberAt_65 : decode cX9_numberAt 65 = .ok (.lmul, 1) := dq daX9_numberAt_0 (i := 37) rfl
theorem dX9_numberAt_66 : decode cX9_numberAt 66 = .ok (.ldc2_w 114, 3) := dq daX9_numberAt_0 (i := 38) rfl
theorem dX9_numberAt_69 : decode cX9_numberAt 69 = .ok (.lsub, 1) := dq daX9_numberAt_0 (i := 39) rfl
theorem daX9_numberAt_40 : dchk cX9_numberAt [(70, .iload_n 3, 1), (71, .i2l, 1), (72, .ladd, 1), (73, .lconst 1, 1), (74, .lsub, 1), (75, .aload_n 0, 1), (76, .iload_n 1, 1), (77, .iload_n 2, 1), (78, .iconst 1, 1), (79, .iadd, 1), (80, .iload_n 3, 1), (81, .iconst 1, 1), (82, .isub, 1), (83, .invokevirtual 157, 3), (86, .lmul, 1), (87, .lreturn, 1), (88, .lconst 0, 1), (89, .lstore 7, 2), (91, .iconst 1, 1), (92, .istore 9, 2), (94, .iload 9, 2), (96, .bipush 40, 2), (98, .if_icmp .gt 69, 3), (101, .aload_n 0, 1), (102, .getfield 31, 3), (105, .iload 4, 2), (107, .iload_n 3, 1), (108, .iload 9, 2), (110, .invokestatic 138, 3), (113, .istore 10, 2), (115, .iload 10, 2), (117, .ifCond .ne 6, 3), (120, .goto 41, 3), (123, .aload_n 0, 1), (124, .getfield 31, 3), (127, .iload 4, 2), (129, .iload_n 3, 1), (130, .iconst 0, 1), (131, .iload 9, 2), (133, .iload 4, 2)] = true := by decide +kernel
theorem dX9_numberAt_70 : decode cX9_numberAt 70 = .ok (.iload_n 3, 1) := dq daX9_numberAt_40 (i := 0) rfl
theorem dX9_numberAt_71 : decode cX9_numberAt 71 = .ok (.i2l, 1) := dq daX9_numberAt_40 (i := 1) rfl
theorem dX9_numberAt_72 : decode cX9_numberAt 72 = .ok (.ladd, 1) := dq daX9_numberAt_40 (i := 2) rfl
theorem dX9_numberAt_73 : decode cX9_numberAt 73 = .ok (.lconst 1, 1) := dq daX9_numberAt_40 (i := 3) rfl
theorem dX9_numberAt_74 : decode cX9_numberAt 74 = .ok (.lsub, 1) := dq daX9_numberAt_40 (i := 4) rfl
theorem dX9_numberAt_75 : decode cX9_numberAt 75 = .ok (.aload_n 0, 1) := dq daX9_numberAt_40 (i := 5) rfl
theorem dX9_numberAt_76 : decode cX9_numberAt 76 = .ok (.iload_n 1, 1) := dq daX9_numberAt_40 (i := 6) rfl
theorem dX9_numberAt_77 : decode cX9_numberAt 77 = .ok (.iload_n 2, 1) := dq daX9_numberAt_40 (i := 7) rfl
theorem dX9_numberAt_78 : decode cX9_numberAt 78 = .ok (.iconst 1, 1) := dq daX9_numberAt_40 (i := 8) rfl
theorem dX9_numberAt_79 : decode cX9_numberAt 79 = .ok (.iadd, 1) := dq daX9_numberAt_40 (i := 9) rfl
theorem dX9_numberAt_80 : decode cX9_numberAt 80 = .ok (.iload_n 3, 1) := dq daX9_numberAt_40 (i := 10) rfl
theorem dX9_numberAt_81 : decode cX9_numberAt 81 = .ok (.iconst 1, 1) := dq daX9_numberAt_40 (i := 11) rfl
theorem dX9_numberAt_82 : decode cX9_numberAt 82 = .ok (.isub, 1) := dq daX9_numberAt_40 (i := 12) rfl
theorem dX9_numberAt_83 : decode cX9_numberAt 83 = .ok (.invokevirtual 157, 3) := dq daX9_numberAt_40 (i := 13) rfl
theorem dX9_numberAt_86 : decode cX9_numberAt 86 = .ok (.lmul, 1) := dq daX9_numberAt_40 (i := 14) rfl
theorem dX9_numberAt_87 : decode cX9_numberAt 87 = .ok (.lreturn, 1) := dq daX9_numberAt_40 (i := 15) rfl
theorem dX9_numberAt_88 : decode cX9_numberAt 88 = .ok (.lconst 0, 1) := dq daX9_numberAt_40 (i := 16) rfl
theorem dX9_numberAt_89 : decode cX9_numberAt 89 = .ok (.lstore 7, 2) := dq daX9_numberAt_40 (i := 17) rfl
theorem dX9_numberAt_91 : decode cX9_numberAt 91 = .ok (.iconst 1, 1) := dq daX9_numberAt_40 (i := 18) rfl
theorem dX9_numberAt_92 : decode cX9_numberAt 92 = .ok (.istore 9, 2) := dq daX9_numberAt_40 (i := 19) rfl
theorem dX9_numberAt_94 : decode cX9_numberAt 94 = .ok (.iload 9, 2) := dq daX9_numberAt_40 (i := 20) rfl
theorem dX9_numberAt_96 : decode cX9_numberAt 96 = .ok (.bipush 40, 2) := dq daX9_numberAt_40 (i := 21) rfl
theorem dX9_numberAt_98 : decode cX9_numberAt 98 = .ok (.if_icmp .gt 69, 3) := dq daX9_numberAt_40 (i := 22) rfl
theorem dX9_numberAt_101 : decode cX9_numberAt 101 = .ok (.aload_n 0, 1) := dq daX9_numberAt_40 (i := 23) rfl
theorem dX9_numberAt_102 : decode cX9_numberAt 102 = .ok (.getfield 31, 3) := dq daX9_numberAt_40 (i := 24) rfl
theorem dX9_numberAt_105 : decode cX9_numberAt 105 = .ok (.iload 4, 2) := dq daX9_numberAt_40 (i := 25) rfl
theorem dX9_numberAt_107 : decode cX9_numberAt 107 = .ok (.iload_n 3, 1) := dq daX9_numberAt_40 (i := 26) rfl
theorem dX9_numberAt_108 : decode cX9_numberAt 108 = .ok (.iload 9, 2) := dq daX9_numberAt_40 (i := 27) rfl
theorem dX9_numberAt_110 : decode cX9_numberAt 110 = .ok (.invokestatic 138, 3) := dq daX9_numberAt_40 (i := 28) rfl
theorem dX9_numberAt_113 : decode cX9_numberAt 113 = .ok (.istore 10, 2) := dq daX9_numberAt_40 (i := 29) rfl
theorem dX9_numberAt_115 : decode cX9_numberAt 115 = .ok (.iload 10, 2) := dq daX9_numberAt_40 (i := 30) rfl
theorem dX9_numberAt_117 : decode cX9_numberAt 117 = .ok (.ifCond .ne 6, 3) := dq daX9_numberAt_40 (i := 31) rfl
theorem dX9_numberAt_120 : decode cX9_numberAt 120 = .ok (.goto 41, 3) := dq daX9_numberAt_40 (i := 32) rfl
theorem dX9_numberAt_123 : decode cX9_numberAt 123 = .ok (.aload_n 0, 1) := dq daX9_numberAt_40 (i := 33) rfl
theorem dX9_numberAt_124 : decode cX9_numberAt 124 = .ok (.getfield 31, 3) := dq daX9_numberAt_40 (i := 34) rfl
theorem dX9_numberAt_127 : decode cX9_numberAt 127 = .ok (.iload 4, 2) := dq daX9_numberAt_40 (i := 35) rfl
theorem dX9_numberAt_129 : decode cX9_numberAt 129 = .ok (.iload_n 3, 1) := dq daX9_numberAt_40 (i := 36) rfl
theorem dX9_numberAt_130 : decode cX9_numberAt 130 = .ok (.iconst 0, 1) := dq daX9_numberAt_40 (i := 37) rfl
theorem dX9_numberAt_131 : decode cX9_numberAt 131 = .ok (.iload 9, 2) := dq daX9_numberAt_40 (i := 38) rfl
theorem dX9_numberAt_133 : decode cX9_numberAt 133 = .ok (.iload 4, 2) := dq daX9_numberAt_40 (i := 39) rfl
theorem daX9_numberAt_80 : dchk cX9_numberAt [(135, .bipush 12, 2), (137, .iadd, 1), (138, .invokestatic 154, 3), (141, .lload 7, 2), (143, .iload 10, 2), (145, .i2l, 1), (146, .aload_n 0, 1), (147, .iload_n 1, 1), (148, .iload_n 2, 1), (149, .iconst 1, 1), (150, .iadd, 1), (151, .iload_n 3, 1), (152, .iconst 1, 1), (153, .isub, 1), (154, .invokevirtual 157, 3), (157, .lmul, 1), (158, .ladd, 1), (159, .lstore 7, 2), (161, .iinc 9 1, 3), (164, .goto (-70), 3), (167, .lload 7, 2), (169, .lreturn, 1)] = true := by decide +kernel
theorem dX9_numberAt_135 : decode cX9_numberAt 135 = .ok (.bipush 12, 2) := dq daX9_numberAt_80 (i := 0) rfl
theorem dX9_numberAt_137 : decode cX9_numberAt 137 = .ok (.iadd, 1) := dq daX9_numberAt_80 (i := 1) rfl
theorem dX9_numberAt_138 : decode cX9_numberAt 138 = .ok (.invokestatic 154, 3) := dq daX9_numberAt_80 (i := 2) rfl
theorem dX9_numberAt_141 : decode cX9_numberAt 141 = .ok (.lload 7, 2) := dq daX9_numberAt_80 (i := 3) rfl
theorem dX9_numberAt_143 : decode cX9_numberAt 143 = .ok (.iload 10, 2) := dq daX9_numberAt_80 (i := 4) rfl
theorem dX9_numberAt_145 : decode cX9_numberAt 145 = .ok (.i2l, 1) := dq daX9_numberAt_80 (i := 5) rfl
theorem dX9_numberAt_146 : decode cX9_numberAt 146 = .ok (.aload_n 0, 1) := dq daX9_numberAt_80 (i := 6) rfl
theorem dX9_numberAt_147 : decode cX9_numberAt 147 = .ok (.iload_n 1, 1) := dq daX9_numberAt_80 (i := 7) rfl
theorem dX9_numberAt_148 : decode cX9_numberAt 148 = .ok (.iload_n 2, 1) := dq daX9_numberAt_80 (i := 8) rfl
theorem dX9_numberAt_149 : decode cX9_numberAt 149 = .ok (.iconst 1, 1) := dq daX9_numberAt_80 (i := 9) rfl
theorem dX9_numberAt_150 : decode cX9_numberAt 150 = .ok (.iadd, 1) := dq daX9_numberAt_80 (i := 10) rfl
theorem dX9_numberAt_151 : decode cX9_numberAt 151 = .ok (.iload_n 3, 1) := dq daX9_numberAt_80 (i := 11) rfl
theorem dX9_numberAt_152 : decode cX9_numberAt 152 = .ok (.iconst 1, 1) := dq daX9_numberAt_80 (i := 12) rfl
theorem dX9_numberAt_153 : decode cX9_numberAt 153 = .ok (.isub, 1) := dq daX9_numberAt_80 (i := 13) rfl
theorem dX9_numberAt_154 : decode cX9_numberAt 154 = .ok (.invokevirtual 157, 3) := dq daX9_numberAt_80 (i := 14) rfl
theorem dX9_numberAt_157 : decode cX9_numberAt 157 = .ok (.lmul, 1) := dq daX9_numberAt_80 (i := 15) rfl
theorem dX9_numberAt_158 : decode cX9_numberAt 158 = .ok (.ladd, 1) := dq daX9_numberAt_80 (i := 16) rfl
theorem dX9_numberAt_159 : decode cX9_numberAt 159 = .ok (.lstore 7, 2) := dq daX9_numberAt_80 (i := 17) rfl
theorem dX9_numberAt_161 : decode cX9_numberAt 161 = .ok (.iinc 9 1, 3) := dq daX9_numberAt_80 (i := 18) rfl
theorem dX9_numberAt_164 : decode cX9_numberAt 164 = .ok (.goto (-70), 3) := dq daX9_numberAt_80 (i := 19) rfl
theorem dX9_numberAt_167 : decode cX9_numberAt 167 = .ok (.lload 7, 2) := dq daX9_numberAt_80 (i := 20) rfl
theorem dX9_numberAt_169 : decode cX9_numberAt 169 = .ok (.lreturn, 1) := dq daX9_numberAt_80 (i := 21) rfl
theorem daX9_numberOf_0 : dchk cX9_numberOf [(0, .iload_n 1, 1), (1, .aload_n 0, 1), (2, .getfield 31, 3), (5, .iconst 0, 1), (6, .iload_n 2, 1), (7, .invokestatic 161, 3), (10, .ifCond .eq 7, 3), (13, .lconst 0, 1), (14, .goto 10, 3), (17, .aload_n 0, 1), (18, .iload_n 1, 1), (19, .iconst 0, 1), (20, .iload_n 2, 1), (21, .invokevirtual 157, 3), (24, .lreturn, 1)] = true := by decide +kernel
theorem dX9_numberOf_0 : decode cX9_numberOf 0 = .ok (.iload_n 1, 1) := dq daX9_numberOf_0 (i := 0) rfl
theorem dX9_numberOf_1 : decode cX9_numberOf 1 = .ok (.aload_n 0, 1) := dq daX9_numberOf_0 (i := 1) rfl
theorem dX9_numberOf_2 : decode cX9_numberOf 2 = .ok (.getfield 31, 3) := dq daX9_numberOf_0 (i := 2) rfl
theorem dX9_numberOf_5 : decode cX9_numberOf 5 = .ok (.iconst 0, 1) := dq daX9_numberOf_0 (i := 3) rfl
theorem dX9_numberOf_6 : decode cX9_numberOf 6 = .ok (.iload_n 2, 1) := dq daX9_numberOf_0 (i := 4) rfl
theorem dX9_numberOf_7 : decode cX9_numberOf 7 = .ok (.invokestatic 161, 3) := dq daX9_numberOf_0 (i := 5) rfl
theorem dX9_numberOf_10 : decode cX9_numberOf 10 = .ok (.ifCond .eq 7, 3) := dq daX9_numberOf_0 (i := 6) rfl
theorem dX9_numberOf_13 : decode cX9_numberOf 13 = .ok (.lconst 0, 1) := dq daX9_numberOf_0 (i := 7) rfl
theorem dX9_numberOf_14 : decode cX9_numberOf 14 = .ok (.goto 10, 3) := dq daX9_numberOf_0 (i := 8) rfl
theorem dX9_numberOf_17 : decode cX9_numberOf 17 = .ok (.aload_n 0, 1) := dq daX9_numberOf_0 (i := 9) rfl
theorem dX9_numberOf_18 : decode cX9_numberOf 18 = .ok (.iload_n 1, 1) := dq daX9_numberOf_0 (i := 10) rfl
theorem dX9_numberOf_19 : decode cX9_numberOf 19 = .ok (.iconst 0, 1) := dq daX9_numberOf_0 (i := 11) rfl
theorem dX9_numberOf_20 : decode cX9_numberOf 20 = .ok (.iload_n 2, 1) := dq daX9_numberOf_0 (i := 12) rfl
theorem dX9_numberOf_21 : decode cX9_numberOf 21 = .ok (.invokevirtual 157, 3) := dq daX9_numberOf_0 (i := 13) rfl
theorem dX9_numberOf_24 : decode cX9_numberOf 24 = .ok (.lreturn, 1) := dq daX9_numberOf_0 (i := 14) rfl
theorem daX9_numberOfMarks_0 : dchk cX9_numberOfMarks [(0, .iconst 0, 1), (1, .istore_n 1, 1), (2, .iload_n 1, 1), (3, .aload_n 0, 1), (4, .getfield 91, 3), (7, .if_icmp .ge 21, 3), (10, .aload_n 0, 1), (11, .getfield 31, 3), (14, .iload_n 1, 1), (15, .aload_n 0, 1), (16, .getfield 11, 3), (19, .iload_n 1, 1), (20, .iaload, 1), (21, .iastore, 1), (22, .iinc 1 1, 3), (25, .goto (-23), 3), (28, .aload_n 0, 1), (29, .aload_n 0, 1), (30, .getfield 88, 3), (33, .aload_n 0, 1), (34, .getfield 91, 3), (37, .invokevirtual 165, 3), (40, .lreturn, 1)] = true := by decide +kernel
theorem dX9_numberOfMarks_0 : decode cX9_numberOfMarks 0 = .ok (.iconst 0, 1) := dq daX9_numberOfMarks_0 (i := 0) rfl
theorem dX9_numberOfMarks_1 : decode cX9_numberOfMarks 1 = .ok (.istore_n 1, 1) := dq daX9_numberOfMarks_0 (i := 1) rfl
theorem dX9_numberOfMarks_2 : decode cX9_numberOfMarks 2 = .ok (.iload_n 1, 1) := dq daX9_numberOfMarks_0 (i := 2) rfl
theorem dX9_numberOfMarks_3 : decode cX9_numberOfMarks 3 = .ok (.aload_n 0, 1) := dq daX9_numberOfMarks_0 (i := 3) rfl
theorem dX9_numberOfMarks_4 : decode cX9_numberOfMarks 4 = .ok (.getfield 91, 3) := dq daX9_numberOfMarks_0 (i := 4) rfl
theorem dX9_numberOfMarks_7 : decode cX9_numberOfMarks 7 = .ok (.if_icmp .ge 21, 3) := dq daX9_numberOfMarks_0 (i := 5) rfl
theorem dX9_numberOfMarks_10 : decode cX9_numberOfMarks 10 = .ok (.aload_n 0, 1) := dq daX9_numberOfMarks_0 (i := 6) rfl
theorem dX9_numberOfMarks_11 : decode cX9_numberOfMarks 11 = .ok (.getfield 31, 3) := dq daX9_numberOfMarks_0 (i := 7) rfl
theorem dX9_numberOfMarks_14 : decode cX9_numberOfMarks 14 = .ok (.iload_n 1, 1) := dq daX9_numberOfMarks_0 (i := 8) rfl
theorem dX9_numberOfMarks_15 : decode cX9_numberOfMarks 15 = .ok (.aload_n 0, 1) := dq daX9_numberOfMarks_0 (i := 9) rfl
theorem dX9_numberOfMarks_16 : decode cX9_numberOfMarks 16 = .ok (.getfield 11, 3) := dq daX9_numberOfMarks_0 (i := 10) rfl
theorem dX9_numberOfMarks_19 : decode cX9_numberOfMarks 19 = .ok (.iload_n 1, 1) := dq daX9_numberOfMarks_0 (i := 11) rfl
theorem dX9_numberOfMarks_20 : decode cX9_numberOfMarks 20 = .ok (.iaload, 1) := dq daX9_numberOfMarks_0 (i := 12) rfl
theorem dX9_numberOfMarks_21 : decode cX9_numberOfMarks 21 = .ok (.iastore, 1) := dq daX9_numberOfMarks_0 (i := 13) rfl
theorem dX9_numberOfMarks_22 : decode cX9_numberOfMarks 22 = .ok (.iinc 1 1, 3) := dq daX9_numberOfMarks_0 (i := 14) rfl
theorem dX9_numberOfMarks_25 : decode cX9_numberOfMarks 25 = .ok (.goto (-23), 3) := dq daX9_numberOfMarks_0 (i := 15) rfl
theorem dX9_numberOfMarks_28 : decode cX9_numberOfMarks 28 = .ok (.aload_n 0, 1) := dq daX9_numberOfMarks_0 (i := 16) rfl
theorem dX9_numberOfMarks_29 : decode cX9_numberOfMarks 29 = .ok (.aload_n 0, 1) := dq daX9_numberOfMarks_0 (i := 17) rfl
theorem dX9_numberOfMarks_30 : decode cX9_numberOfMarks 30 = .ok (.getfield 88, 3) := dq daX9_numberOfMarks_0 (i := 18) rfl
theorem dX9_numberOfMarks_33 : decode cX9_numberOfMarks 33 = .ok (.aload_n 0, 1) := dq daX9_numberOfMarks_0 (i := 19) rfl
theorem dX9_numberOfMarks_34 : decode cX9_numberOfMarks 34 = .ok (.getfield 91, 3) := dq daX9_numberOfMarks_0 (i := 20) rfl
theorem dX9_numberOfMarks_37 : decode cX9_numberOfMarks 37 = .ok (.invokevirtual 165, 3) := dq daX9_numberOfMarks_0 (i := 21) rfl
theorem dX9_numberOfMarks_40 : decode cX9_numberOfMarks 40 = .ok (.lreturn, 1) := dq daX9_numberOfMarks_0 (i := 22) rfl
theorem daX9_number_0 : dchk cX9_number [(0, .iload_n 1, 1), (1, .i2l, 1), (2, .lconst 0, 1), (3, .lconst 1, 1), (4, .invokestatic 110, 3), (7, .ifCond .eq 21, 3), (10, .aload_n 0, 1), (11, .invokevirtual 169, 3), (14, .aload_n 0, 1), (15, .getfield 88, 3), (18, .invokestatic 173, 3), (21, .iload_n 1, 1), (22, .invokestatic 177, 3), (25, .goto 6, 3), (28, .ldc2_w 181, 3), (31, .lreturn, 1)] = true := by decide +kernel
theorem dX9_number_0 : decode cX9_number 0 = .ok (.iload_n 1, 1) := dq daX9_number_0 (i := 0) rfl
theorem dX9_number_1 : decode cX9_number 1 = .ok (.i2l, 1) := dq daX9_number_0 (i := 1) rfl
theorem dX9_number_2 : decode cX9_number 2 = .ok (.lconst 0, 1) := dq daX9_number_0 (i := 2) rfl
theorem dX9_number_3 : decode cX9_number 3 = .ok (.lconst 1, 1) := dq daX9_number_0 (i := 3) rfl
theorem dX9_number_4 : decode cX9_number 4 = .ok (.invokestatic 110, 3) := dq daX9_number_0 (i := 4) rfl
theorem dX9_number_7 : decode cX9_number 7 = .ok (.ifCond .eq 21, 3) := dq daX9_number_0 (i := 5) rfl
theorem dX9_number_10 : decode cX9_number 10 = .ok (.aload_n 0, 1) := dq daX9_number_0 (i := 6) rfl
theorem dX9_number_11 : decode cX9_number 11 = .ok (.invokevirtual 169, 3) := dq daX9_number_0 (i := 7) rfl
theorem dX9_number_14 : decode cX9_number 14 = .ok (.aload_n 0, 1) := dq daX9_number_0 (i := 8) rfl
theorem dX9_number_15 : decode cX9_number 15 = .ok (.getfield 88, 3) := dq daX9_number_0 (i := 9) rfl
theorem dX9_number_18 : decode cX9_number 18 = .ok (.invokestatic 173, 3) := dq daX9_number_0 (i := 10) rfl
theorem dX9_number_21 : decode cX9_number 21 = .ok (.iload_n 1, 1) := dq daX9_number_0 (i := 11) rfl
theorem dX9_number_22 : decode cX9_number 22 = .ok (.invokestatic 177, 3) := dq daX9_number_0 (i := 12) rfl
theorem dX9_number_25 : decode cX9_number 25 = .ok (.goto 6, 3) := dq daX9_number_0 (i := 13) rfl
theorem dX9_number_28 : decode cX9_number 28 = .ok (.ldc2_w 181, 3) := dq daX9_number_0 (i := 14) rfl
theorem dX9_number_31 : decode cX9_number 31 = .ok (.lreturn, 1) := dq daX9_number_0 (i := 15) rfl
theorem daX9_ruleOf_0 : dchk cX9_ruleOf [(0, .iconst 0, 1), (1, .istore_n 1, 1), (2, .iload_n 1, 1), (3, .aload_n 0, 1), (4, .getfield 91, 3), (7, .if_icmp .ge 21, 3), (10, .aload_n 0, 1), (11, .getfield 31, 3), (14, .iload_n 1, 1), (15, .aload_n 0, 1), (16, .getfield 11, 3), (19, .iload_n 1, 1), (20, .iaload, 1), (21, .iastore, 1), (22, .iinc 1 1, 3), (25, .goto (-23), 3), (28, .aload_n 0, 1), (29, .getfield 88, 3), (32, .aload_n 0, 1), (33, .getfield 31, 3), (36, .iconst 0, 1), (37, .aload_n 0, 1), (38, .getfield 91, 3), (41, .invokestatic 161, 3), (44, .ifCond .eq 5, 3), (47, .iconst 0, 1), (48, .ireturn, 1), (49, .aload_n 0, 1), (50, .getfield 88, 3), (53, .aload_n 0, 1), (54, .getfield 31, 3), (57, .iconst 0, 1), (58, .aload_n 0, 1), (59, .getfield 91, 3), (62, .invokestatic 150, 3), (65, .lconst 0, 1), (66, .lcmp, 1), (67, .ifCond .lt 7, 3), (70, .iconst 1, 1), (71, .goto 24, 3)] = true := by decide +kernel
theorem dX9_ruleOf_0 : decode cX9_ruleOf 0 = .ok (.iconst 0, 1) := dq daX9_ruleOf_0 (i := 0) rfl
theorem dX9_ruleOf_1 : decode cX9_ruleOf 1 = .ok (.istore_n 1, 1) := dq daX9_ruleOf_0 (i := 1) rfl
theorem dX9_ruleOf_2 : decode cX9_ruleOf 2 = .ok (.iload_n 1, 1) := dq daX9_ruleOf_0 (i := 2) rfl
theorem dX9_ruleOf_3 : decode cX9_ruleOf 3 = .ok (.aload_n 0, 1) := dq daX9_ruleOf_0 (i := 3) rfl
theorem dX9_ruleOf_4 : decode cX9_ruleOf 4 = .ok (.getfield 91, 3) := dq daX9_ruleOf_0 (i := 4) rfl
theorem dX9_ruleOf_7 : decode cX9_ruleOf 7 = .ok (.if_icmp .ge 21, 3) := dq daX9_ruleOf_0 (i := 5) rfl
theorem dX9_ruleOf_10 : decode cX9_ruleOf 10 = .ok (.aload_n 0, 1) := dq daX9_ruleOf_0 (i := 6) rfl
theorem dX9_ruleOf_11 : decode cX9_ruleOf 11 = .ok (.getfield 31, 3) := dq daX9_ruleOf_0 (i := 7) rfl
theorem dX9_ruleOf_14 : decode cX9_ruleOf 14 = .ok (.iload_n 1, 1) := dq daX9_ruleOf_0 (i := 8) rfl
theorem dX9_ruleOf_15 : decode cX9_ruleOf 15 = .ok (.aload_n 0, 1) := dq daX9_ruleOf_0 (i := 9) rfl
theorem dX9_ruleOf_16 : decode cX9_ruleOf 16 = .ok (.getfield 11, 3) := dq daX9_ruleOf_0 (i := 10) rfl
theorem dX9_ruleOf_19 : decode cX9_ruleOf 19 = .ok (.iload_n 1, 1) := dq daX9_ruleOf_0 (i := 11) rfl
theorem dX9_ruleOf_20 : decode cX9_ruleOf 20 = .ok (.iaload, 1) := dq daX9_ruleOf_0 (i := 12) rfl
theorem dX9_ruleOf_21 : decode cX9_ruleOf 21 = .ok (.iastore, 1) := dq daX9_ruleOf_0 (i := 13) rfl
theorem dX9_ruleOf_22 : decode cX9_ruleOf 22 = .ok (.iinc 1 1, 3) := dq daX9_ruleOf_0 (i := 14) rfl
theorem dX9_ruleOf_25 : decode cX9_ruleOf 25 = .ok (.goto (-23), 3) := dq daX9_ruleOf_0 (i := 15) rfl
theorem dX9_ruleOf_28 : decode cX9_ruleOf 28 = .ok (.aload_n 0, 1) := dq daX9_ruleOf_0 (i := 16) rfl
theorem dX9_ruleOf_29 : decode cX9_ruleOf 29 = .ok (.getfield 88, 3) := dq daX9_ruleOf_0 (i := 17) rfl
theorem dX9_ruleOf_32 : decode cX9_ruleOf 32 = .ok (.aload_n 0, 1) := dq daX9_ruleOf_0 (i := 18) rfl
theorem dX9_ruleOf_33 : decode cX9_ruleOf 33 = .ok (.getfield 31, 3) := dq daX9_ruleOf_0 (i := 19) rfl
theorem dX9_ruleOf_36 : decode cX9_ruleOf 36 = .ok (.iconst 0, 1) := dq daX9_ruleOf_0 (i := 20) rfl
theorem dX9_ruleOf_37 : decode cX9_ruleOf 37 = .ok (.aload_n 0, 1) := dq daX9_ruleOf_0 (i := 21) rfl
theorem dX9_ruleOf_38 : decode cX9_ruleOf 38 = .ok (.getfield 91, 3) := dq daX9_ruleOf_0 (i := 22) rfl
theorem dX9_ruleOf_41 : decode cX9_ruleOf 41 = .ok (.invokestatic 161, 3) := dq daX9_ruleOf_0 (i := 23) rfl
theorem dX9_ruleOf_44 : decode cX9_ruleOf 44 = .ok (.ifCond .eq 5, 3) := dq daX9_ruleOf_0 (i := 24) rfl
theorem dX9_ruleOf_47 : decode cX9_ruleOf 47 = .ok (.iconst 0, 1) := dq daX9_ruleOf_0 (i := 25) rfl
theorem dX9_ruleOf_48 : decode cX9_ruleOf 48 = .ok (.ireturn, 1) := dq daX9_ruleOf_0 (i := 26) rfl
theorem dX9_ruleOf_49 : decode cX9_ruleOf 49 = .ok (.aload_n 0, 1) := dq daX9_ruleOf_0 (i := 27) rfl
theorem dX9_ruleOf_50 : decode cX9_ruleOf 50 = .ok (.getfield 88, 3) := dq daX9_ruleOf_0 (i := 28) rfl
theorem dX9_ruleOf_53 : decode cX9_ruleOf 53 = .ok (.aload_n 0, 1) := dq daX9_ruleOf_0 (i := 29) rfl
theorem dX9_ruleOf_54 : decode cX9_ruleOf 54 = .ok (.getfield 31, 3) := dq daX9_ruleOf_0 (i := 30) rfl
theorem dX9_ruleOf_57 : decode cX9_ruleOf 57 = .ok (.iconst 0, 1) := dq daX9_ruleOf_0 (i := 31) rfl
theorem dX9_ruleOf_58 : decode cX9_ruleOf 58 = .ok (.aload_n 0, 1) := dq daX9_ruleOf_0 (i := 32) rfl
theorem dX9_ruleOf_59 : decode cX9_ruleOf 59 = .ok (.getfield 91, 3) := dq daX9_ruleOf_0 (i := 33) rfl
theorem dX9_ruleOf_62 : decode cX9_ruleOf 62 = .ok (.invokestatic 150, 3) := dq daX9_ruleOf_0 (i := 34) rfl
theorem dX9_ruleOf_65 : decode cX9_ruleOf 65 = .ok (.lconst 0, 1) := dq daX9_ruleOf_0 (i := 35) rfl
theorem dX9_ruleOf_66 : decode cX9_ruleOf 66 = .ok (.lcmp, 1) := dq daX9_ruleOf_0 (i := 36) rfl
theorem dX9_ruleOf_67 : decode cX9_ruleOf 67 = .ok (.ifCond .lt 7, 3) := dq daX9_ruleOf_0 (i := 37) rfl
theorem dX9_ruleOf_70 : decode cX9_ruleOf 70 = .ok (.iconst 1, 1) := dq daX9_ruleOf_0 (i := 38) rfl
theorem dX9_ruleOf_71 : decode cX9_ruleOf 71 = .ok (.goto 24, 3) := dq daX9_ruleOf_0 (i := 39) rfl
theorem daX9_ruleOf_40 : dchk cX9_ruleOf [(74, .aload_n 0, 1), (75, .getfield 31, 3), (78, .iconst 0, 1), (79, .aload_n 0, 1), (80, .getfield 91, 3), (83, .iconst 0, 1), (84, .invokestatic 138, 3), (87, .ifCond .le 7, 3), (90, .iconst 2, 1), (91, .goto 4, 3), (94, .iconst 3, 1), (95, .ireturn, 1)] = true := by decide +kernel
theorem dX9_ruleOf_74 : decode cX9_ruleOf 74 = .ok (.aload_n 0, 1) := dq daX9_ruleOf_40 (i := 0) rfl
theorem dX9_ruleOf_75 : decode cX9_ruleOf 75 = .ok (.getfield 31, 3) := dq daX9_ruleOf_40 (i := 1) rfl
theorem dX9_ruleOf_78 : decode cX9_ruleOf 78 = .ok (.iconst 0, 1) := dq daX9_ruleOf_40 (i := 2) rfl
theorem dX9_ruleOf_79 : decode cX9_ruleOf 79 = .ok (.aload_n 0, 1) := dq daX9_ruleOf_40 (i := 3) rfl
theorem dX9_ruleOf_80 : decode cX9_ruleOf 80 = .ok (.getfield 91, 3) := dq daX9_ruleOf_40 (i := 4) rfl
theorem dX9_ruleOf_83 : decode cX9_ruleOf 83 = .ok (.iconst 0, 1) := dq daX9_ruleOf_40 (i := 5) rfl
theorem dX9_ruleOf_84 : decode cX9_ruleOf 84 = .ok (.invokestatic 138, 3) := dq daX9_ruleOf_40 (i := 6) rfl
theorem dX9_ruleOf_87 : decode cX9_ruleOf 87 = .ok (.ifCond .le 7, 3) := dq daX9_ruleOf_40 (i := 7) rfl
theorem dX9_ruleOf_90 : decode cX9_ruleOf 90 = .ok (.iconst 2, 1) := dq daX9_ruleOf_40 (i := 8) rfl
theorem dX9_ruleOf_91 : decode cX9_ruleOf 91 = .ok (.goto 4, 3) := dq daX9_ruleOf_40 (i := 9) rfl
theorem dX9_ruleOf_94 : decode cX9_ruleOf 94 = .ok (.iconst 3, 1) := dq daX9_ruleOf_40 (i := 10) rfl
theorem dX9_ruleOf_95 : decode cX9_ruleOf 95 = .ok (.ireturn, 1) := dq daX9_ruleOf_40 (i := 11) rfl
theorem daX9_rule_0 : dchk cX9_rule [(0, .aload_n 0, 1), (1, .invokevirtual 183, 3), (4, .ireturn, 1)] = true := by decide +kernel
theorem dX9_rule_0 : decode cX9_rule 0 = .ok (.aload_n 0, 1) := dq daX9_rule_0 (i := 0) rfl
theorem dX9_rule_1 : decode cX9_rule 1 = .ok (.invokevirtual 183, 3) := dq daX9_rule_0 (i := 1) rfl
theorem dX9_rule_4 : decode cX9_rule 4 = .ok (.ireturn, 1) := dq daX9_rule_0 (i := 2) rfl
theorem daX9_meets_0 : dchk cX9_meets [(0, .iconst 1, 1), (1, .istore_n 3, 1), (2, .iload_n 3, 1), (3, .iload_n 2, 1), (4, .if_icmp .ge 90, 3), (7, .iload_n 3, 1), (8, .istore 4, 2), (10, .iload 4, 2), (12, .ifCond .le 76, 3), (15, .aload_n 0, 1), (16, .getfield 35, 3), (19, .iload_n 1, 1), (20, .iload 4, 2), (22, .iadd, 1), (23, .iconst 1, 1), (24, .isub, 1), (25, .iaload, 1), (26, .aload_n 0, 1), (27, .getfield 35, 3), (30, .iload_n 1, 1), (31, .iload 4, 2), (33, .iadd, 1), (34, .iaload, 1), (35, .if_icmp .le 53, 3), (38, .aload_n 0, 1), (39, .getfield 35, 3), (42, .iload_n 1, 1), (43, .iload 4, 2), (45, .iadd, 1), (46, .iaload, 1), (47, .istore 5, 2), (49, .aload_n 0, 1), (50, .getfield 35, 3), (53, .iload_n 1, 1), (54, .iload 4, 2), (56, .iadd, 1), (57, .aload_n 0, 1), (58, .getfield 35, 3), (61, .iload_n 1, 1), (62, .iload 4, 2)] = true := by decide +kernel
theorem dX9_meets_0 : decode cX9_meets 0 = .ok (.iconst 1, 1) := dq daX9_meets_0 (i := 0) rfl
theorem dX9_meets_1 : decode cX9_meets 1 = .ok (.istore_n 3, 1) := dq daX9_meets_0 (i := 1) rfl
theorem dX9_meets_2 : decode cX9_meets 2 = .ok (.iload_n 3, 1) := dq daX9_meets_0 (i := 2) rfl
theorem dX9_meets_3 : decode cX9_meets 3 = .ok (.iload_n 2, 1) := dq daX9_meets_0 (i := 3) rfl
theorem dX9_meets_4 : decode cX9_meets 4 = .ok (.if_icmp .ge 90, 3) := dq daX9_meets_0 (i := 4) rfl
theorem dX9_meets_7 : decode cX9_meets 7 = .ok (.iload_n 3, 1) := dq daX9_meets_0 (i := 5) rfl
theorem dX9_meets_8 : decode cX9_meets 8 = .ok (.istore 4, 2) := dq daX9_meets_0 (i := 6) rfl
theorem dX9_meets_10 : decode cX9_meets 10 = .ok (.iload 4, 2) := dq daX9_meets_0 (i := 7) rfl
theorem dX9_meets_12 : decode cX9_meets 12 = .ok (.ifCond .le 76, 3) := dq daX9_meets_0 (i := 8) rfl
theorem dX9_meets_15 : decode cX9_meets 15 = .ok (.aload_n 0, 1) := dq daX9_meets_0 (i := 9) rfl
theorem dX9_meets_16 : decode cX9_meets 16 = .ok (.getfield 35, 3) := dq daX9_meets_0 (i := 10) rfl
theorem dX9_meets_19 : decode cX9_meets 19 = .ok (.iload_n 1, 1) := dq daX9_meets_0 (i := 11) rfl
theorem dX9_meets_20 : decode cX9_meets 20 = .ok (.iload 4, 2) := dq daX9_meets_0 (i := 12) rfl
theorem dX9_meets_22 : decode cX9_meets 22 = .ok (.iadd, 1) := dq daX9_meets_0 (i := 13) rfl
theorem dX9_meets_23 : decode cX9_meets 23 = .ok (.iconst 1, 1) := dq daX9_meets_0 (i := 14) rfl
theorem dX9_meets_24 : decode cX9_meets 24 = .ok (.isub, 1) := dq daX9_meets_0 (i := 15) rfl
theorem dX9_meets_25 : decode cX9_meets 25 = .ok (.iaload, 1) := dq daX9_meets_0 (i := 16) rfl
theorem dX9_meets_26 : decode cX9_meets 26 = .ok (.aload_n 0, 1) := dq daX9_meets_0 (i := 17) rfl
theorem dX9_meets_27 : decode cX9_meets 27 = .ok (.getfield 35, 3) := dq daX9_meets_0 (i := 18) rfl
theorem dX9_meets_30 : decode cX9_meets 30 = .ok (.iload_n 1, 1) := dq daX9_meets_0 (i := 19) rfl
theorem dX9_meets_31 : decode cX9_meets 31 = .ok (.iload 4, 2) := dq daX9_meets_0 (i := 20) rfl
theorem dX9_meets_33 : decode cX9_meets 33 = .ok (.iadd, 1) := dq daX9_meets_0 (i := 21) rfl
theorem dX9_meets_34 : decode cX9_meets 34 = .ok (.iaload, 1) := dq daX9_meets_0 (i := 22) rfl
theorem dX9_meets_35 : decode cX9_meets 35 = .ok (.if_icmp .le 53, 3) := dq daX9_meets_0 (i := 23) rfl
theorem dX9_meets_38 : decode cX9_meets 38 = .ok (.aload_n 0, 1) := dq daX9_meets_0 (i := 24) rfl
theorem dX9_meets_39 : decode cX9_meets 39 = .ok (.getfield 35, 3) := dq daX9_meets_0 (i := 25) rfl
theorem dX9_meets_42 : decode cX9_meets 42 = .ok (.iload_n 1, 1) := dq daX9_meets_0 (i := 26) rfl
theorem dX9_meets_43 : decode cX9_meets 43 = .ok (.iload 4, 2) := dq daX9_meets_0 (i := 27) rfl
theorem dX9_meets_45 : decode cX9_meets 45 = .ok (.iadd, 1) := dq daX9_meets_0 (i := 28) rfl
theorem dX9_meets_46 : decode cX9_meets 46 = .ok (.iaload, 1) := dq daX9_meets_0 (i := 29) rfl
theorem dX9_meets_47 : decode cX9_meets 47 = .ok (.istore 5, 2) := dq daX9_meets_0 (i := 30) rfl
theorem dX9_meets_49 : decode cX9_meets 49 = .ok (.aload_n 0, 1) := dq daX9_meets_0 (i := 31) rfl
theorem dX9_meets_50 : decode cX9_meets 50 = .ok (.getfield 35, 3) := dq daX9_meets_0 (i := 32) rfl
theorem dX9_meets_53 : decode cX9_meets 53 = .ok (.iload_n 1, 1) := dq daX9_meets_0 (i := 33) rfl
theorem dX9_meets_54 : decode cX9_meets 54 = .ok (.iload 4, 2) := dq daX9_meets_0 (i := 34) rfl
theorem dX9_meets_56 : decode cX9_meets 56 = .ok (.iadd, 1) := dq daX9_meets_0 (i := 35) rfl
theorem dX9_meets_57 : decode cX9_meets 57 = .ok (.aload_n 0, 1) := dq daX9_meets_0 (i := 36) rfl
theorem dX9_meets_58 : decode cX9_meets 58 = .ok (.getfield 35, 3) := dq daX9_meets_0 (i := 37) rfl
theorem dX9_meets_61 : decode cX9_meets 61 = .ok (.iload_n 1, 1) := dq daX9_meets_0 (i := 38) rfl
theorem dX9_meets_62 : decode cX9_meets 62 = .ok (.iload 4, 2) := dq daX9_meets_0 (i := 39) rfl
theorem daX9_meets_40 : dchk cX9_meets [(64, .iadd, 1), (65, .iconst 1, 1), (66, .isub, 1), (67, .iaload, 1), (68, .iastore, 1), (69, .aload_n 0, 1), (70, .getfield 35, 3), (73, .iload_n 1, 1), (74, .iload 4, 2), (76, .iadd, 1), (77, .iconst 1, 1), (78, .isub, 1), (79, .iload 5, 2), (81, .iastore, 1), (82, .iinc 4 (-1), 3), (85, .goto (-75), 3), (88, .iinc 3 1, 3), (91, .goto (-89), 3), (94, .iconst 0, 1), (95, .istore_n 3, 1), (96, .iload_n 3, 1), (97, .aload_n 0, 1), (98, .getfield 187, 3), (101, .if_icmp .ge 83, 3), (104, .aload_n 0, 1), (105, .getfield 38, 3), (108, .iload_n 3, 1), (109, .iaload, 1), (110, .iload_n 2, 1), (111, .if_icmp .ne 7, 3), (114, .iconst 1, 1), (115, .goto 4, 3), (118, .iconst 0, 1), (119, .istore 4, 2), (121, .iconst 0, 1), (122, .istore 5, 2), (124, .iload 5, 2), (126, .iload_n 2, 1), (127, .if_icmp .ge 45, 3), (130, .iload 4, 2)] = true := by decide +kernel
theorem dX9_meets_64 : decode cX9_meets 64 = .ok (.iadd, 1) := dq daX9_meets_40 (i := 0) rfl
theorem dX9_meets_65 : decode cX9_meets 65 = .ok (.iconst 1, 1) := dq daX9_meets_40 (i := 1) rfl
theorem dX9_meets_66 : decode cX9_meets 66 = .ok (.isub, 1) := dq daX9_meets_40 (i := 2) rfl
theorem dX9_meets_67 : decode cX9_meets 67 = .ok (.iaload, 1) := dq daX9_meets_40 (i := 3) rfl
theorem dX9_meets_68 : decode cX9_meets 68 = .ok (.iastore, 1) := dq daX9_meets_40 (i := 4) rfl
theorem dX9_meets_69 : decode cX9_meets 69 = .ok (.aload_n 0, 1) := dq daX9_meets_40 (i := 5) rfl
theorem dX9_meets_70 : decode cX9_meets 70 = .ok (.getfield 35, 3) := dq daX9_meets_40 (i := 6) rfl
theorem dX9_meets_73 : decode cX9_meets 73 = .ok (.iload_n 1, 1) := dq daX9_meets_40 (i := 7) rfl
theorem dX9_meets_74 : decode cX9_meets 74 = .ok (.iload 4, 2) := dq daX9_meets_40 (i := 8) rfl
theorem dX9_meets_76 : decode cX9_meets 76 = .ok (.iadd, 1) := dq daX9_meets_40 (i := 9) rfl
theorem dX9_meets_77 : decode cX9_meets 77 = .ok (.iconst 1, 1) := dq daX9_meets_40 (i := 10) rfl
theorem dX9_meets_78 : decode cX9_meets 78 = .ok (.isub, 1) := dq daX9_meets_40 (i := 11) rfl
theorem dX9_meets_79 : decode cX9_meets 79 = .ok (.iload 5, 2) := dq daX9_meets_40 (i := 12) rfl
theorem dX9_meets_81 : decode cX9_meets 81 = .ok (.iastore, 1) := dq daX9_meets_40 (i := 13) rfl
theorem dX9_meets_82 : decode cX9_meets 82 = .ok (.iinc 4 (-1), 3) := dq daX9_meets_40 (i := 14) rfl
theorem dX9_meets_85 : decode cX9_meets 85 = .ok (.goto (-75), 3) := dq daX9_meets_40 (i := 15) rfl
theorem dX9_meets_88 : decode cX9_meets 88 = .ok (.iinc 3 1, 3) := dq daX9_meets_40 (i := 16) rfl
theorem dX9_meets_91 : decode cX9_meets 91 = .ok (.goto (-89), 3) := dq daX9_meets_40 (i := 17) rfl
theorem dX9_meets_94 : decode cX9_meets 94 = .ok (.iconst 0, 1) := dq daX9_meets_40 (i := 18) rfl
theorem dX9_meets_95 : decode cX9_meets 95 = .ok (.istore_n 3, 1) := dq daX9_meets_40 (i := 19) rfl
theorem dX9_meets_96 : decode cX9_meets 96 = .ok (.iload_n 3, 1) := dq daX9_meets_40 (i := 20) rfl
theorem dX9_meets_97 : decode cX9_meets 97 = .ok (.aload_n 0, 1) := dq daX9_meets_40 (i := 21) rfl
theorem dX9_meets_98 : decode cX9_meets 98 = .ok (.getfield 187, 3) := dq daX9_meets_40 (i := 22) rfl
theorem dX9_meets_101 : decode cX9_meets 101 = .ok (.if_icmp .ge 83, 3) := dq daX9_meets_40 (i := 23) rfl
theorem dX9_meets_104 : decode cX9_meets 104 = .ok (.aload_n 0, 1) := dq daX9_meets_40 (i := 24) rfl
theorem dX9_meets_105 : decode cX9_meets 105 = .ok (.getfield 38, 3) := dq daX9_meets_40 (i := 25) rfl
theorem dX9_meets_108 : decode cX9_meets 108 = .ok (.iload_n 3, 1) := dq daX9_meets_40 (i := 26) rfl
theorem dX9_meets_109 : decode cX9_meets 109 = .ok (.iaload, 1) := dq daX9_meets_40 (i := 27) rfl
theorem dX9_meets_110 : decode cX9_meets 110 = .ok (.iload_n 2, 1) := dq daX9_meets_40 (i := 28) rfl
theorem dX9_meets_111 : decode cX9_meets 111 = .ok (.if_icmp .ne 7, 3) := dq daX9_meets_40 (i := 29) rfl
theorem dX9_meets_114 : decode cX9_meets 114 = .ok (.iconst 1, 1) := dq daX9_meets_40 (i := 30) rfl
theorem dX9_meets_115 : decode cX9_meets 115 = .ok (.goto 4, 3) := dq daX9_meets_40 (i := 31) rfl
theorem dX9_meets_118 : decode cX9_meets 118 = .ok (.iconst 0, 1) := dq daX9_meets_40 (i := 32) rfl
theorem dX9_meets_119 : decode cX9_meets 119 = .ok (.istore 4, 2) := dq daX9_meets_40 (i := 33) rfl
theorem dX9_meets_121 : decode cX9_meets 121 = .ok (.iconst 0, 1) := dq daX9_meets_40 (i := 34) rfl
theorem dX9_meets_122 : decode cX9_meets 122 = .ok (.istore 5, 2) := dq daX9_meets_40 (i := 35) rfl
theorem dX9_meets_124 : decode cX9_meets 124 = .ok (.iload 5, 2) := dq daX9_meets_40 (i := 36) rfl
theorem dX9_meets_126 : decode cX9_meets 126 = .ok (.iload_n 2, 1) := dq daX9_meets_40 (i := 37) rfl
theorem dX9_meets_127 : decode cX9_meets 127 = .ok (.if_icmp .ge 45, 3) := dq daX9_meets_40 (i := 38) rfl
theorem dX9_meets_130 : decode cX9_meets 130 = .ok (.iload 4, 2) := dq daX9_meets_40 (i := 39) rfl
theorem daX9_meets_80 : dchk cX9_meets [(132, .ifCond .eq 40, 3), (135, .aload_n 0, 1), (136, .getfield 35, 3), (139, .iload_n 3, 1), (140, .bipush 12, 2), (142, .imul, 1), (143, .iload 5, 2), (145, .iadd, 1), (146, .iaload, 1), (147, .aload_n 0, 1), (148, .getfield 35, 3), (151, .iload_n 1, 1), (152, .iload 5, 2), (154, .iadd, 1), (155, .iaload, 1), (156, .if_icmp .ne 7, 3), (159, .iconst 1, 1), (160, .goto 4, 3), (163, .iconst 0, 1), (164, .istore 4, 2), (166, .iinc 5 1, 3), (169, .goto (-45), 3), (172, .iload 4, 2), (174, .ifCond .eq 4, 3), (177, .return_, 1), (178, .iinc 3 1, 3), (181, .goto (-85), 3), (184, .aload_n 0, 1), (185, .getfield 38, 3), (188, .aload_n 0, 1), (189, .getfield 187, 3), (192, .iload_n 2, 1), (193, .iastore, 1), (194, .aload_n 0, 1), (195, .dup, 1), (196, .getfield 187, 3), (199, .iconst 1, 1), (200, .iadd, 1), (201, .putfield 187, 3), (204, .return_, 1)] = true := by decide +kernel
theorem dX9_meets_132 : decode cX9_meets 132 = .ok (.ifCond .eq 40, 3) := dq daX9_meets_80 (i := 0) rfl
theorem dX9_meets_135 : decode cX9_meets 135 = .ok (.aload_n 0, 1) := dq daX9_meets_80 (i := 1) rfl
theorem dX9_meets_136 : decode cX9_meets 136 = .ok (.getfield 35, 3) := dq daX9_meets_80 (i := 2) rfl
theorem dX9_meets_139 : decode cX9_meets 139 = .ok (.iload_n 3, 1) := dq daX9_meets_80 (i := 3) rfl
theorem dX9_meets_140 : decode cX9_meets 140 = .ok (.bipush 12, 2) := dq daX9_meets_80 (i := 4) rfl
theorem dX9_meets_142 : decode cX9_meets 142 = .ok (.imul, 1) := dq daX9_meets_80 (i := 5) rfl
theorem dX9_meets_143 : decode cX9_meets 143 = .ok (.iload 5, 2) := dq daX9_meets_80 (i := 6) rfl
theorem dX9_meets_145 : decode cX9_meets 145 = .ok (.iadd, 1) := dq daX9_meets_80 (i := 7) rfl
theorem dX9_meets_146 : decode cX9_meets 146 = .ok (.iaload, 1) := dq daX9_meets_80 (i := 8) rfl
theorem dX9_meets_147 : decode cX9_meets 147 = .ok (.aload_n 0, 1) := dq daX9_meets_80 (i := 9) rfl
theorem dX9_meets_148 : decode cX9_meets 148 = .ok (.getfield 35, 3) := dq daX9_meets_80 (i := 10) rfl
theorem dX9_meets_151 : decode cX9_meets 151 = .ok (.iload_n 1, 1) := dq daX9_meets_80 (i := 11) rfl
theorem dX9_meets_152 : decode cX9_meets 152 = .ok (.iload 5, 2) := dq daX9_meets_80 (i := 12) rfl
theorem dX9_meets_154 : decode cX9_meets 154 = .ok (.iadd, 1) := dq daX9_meets_80 (i := 13) rfl
theorem dX9_meets_155 : decode cX9_meets 155 = .ok (.iaload, 1) := dq daX9_meets_80 (i := 14) rfl
theorem dX9_meets_156 : decode cX9_meets 156 = .ok (.if_icmp .ne 7, 3) := dq daX9_meets_80 (i := 15) rfl
theorem dX9_meets_159 : decode cX9_meets 159 = .ok (.iconst 1, 1) := dq daX9_meets_80 (i := 16) rfl
theorem dX9_meets_160 : decode cX9_meets 160 = .ok (.goto 4, 3) := dq daX9_meets_80 (i := 17) rfl
theorem dX9_meets_163 : decode cX9_meets 163 = .ok (.iconst 0, 1) := dq daX9_meets_80 (i := 18) rfl
theorem dX9_meets_164 : decode cX9_meets 164 = .ok (.istore 4, 2) := dq daX9_meets_80 (i := 19) rfl
theorem dX9_meets_166 : decode cX9_meets 166 = .ok (.iinc 5 1, 3) := dq daX9_meets_80 (i := 20) rfl
theorem dX9_meets_169 : decode cX9_meets 169 = .ok (.goto (-45), 3) := dq daX9_meets_80 (i := 21) rfl
theorem dX9_meets_172 : decode cX9_meets 172 = .ok (.iload 4, 2) := dq daX9_meets_80 (i := 22) rfl
theorem dX9_meets_174 : decode cX9_meets 174 = .ok (.ifCond .eq 4, 3) := dq daX9_meets_80 (i := 23) rfl
theorem dX9_meets_177 : decode cX9_meets 177 = .ok (.return_, 1) := dq daX9_meets_80 (i := 24) rfl
theorem dX9_meets_178 : decode cX9_meets 178 = .ok (.iinc 3 1, 3) := dq daX9_meets_80 (i := 25) rfl
theorem dX9_meets_181 : decode cX9_meets 181 = .ok (.goto (-85), 3) := dq daX9_meets_80 (i := 26) rfl
theorem dX9_meets_184 : decode cX9_meets 184 = .ok (.aload_n 0, 1) := dq daX9_meets_80 (i := 27) rfl
theorem dX9_meets_185 : decode cX9_meets 185 = .ok (.getfield 38, 3) := dq daX9_meets_80 (i := 28) rfl
theorem dX9_meets_188 : decode cX9_meets 188 = .ok (.aload_n 0, 1) := dq daX9_meets_80 (i := 29) rfl
theorem dX9_meets_189 : decode cX9_meets 189 = .ok (.getfield 187, 3) := dq daX9_meets_80 (i := 30) rfl
theorem dX9_meets_192 : decode cX9_meets 192 = .ok (.iload_n 2, 1) := dq daX9_meets_80 (i := 31) rfl
theorem dX9_meets_193 : decode cX9_meets 193 = .ok (.iastore, 1) := dq daX9_meets_80 (i := 32) rfl
theorem dX9_meets_194 : decode cX9_meets 194 = .ok (.aload_n 0, 1) := dq daX9_meets_80 (i := 33) rfl
theorem dX9_meets_195 : decode cX9_meets 195 = .ok (.dup, 1) := dq daX9_meets_80 (i := 34) rfl
theorem dX9_meets_196 : decode cX9_meets 196 = .ok (.getfield 187, 3) := dq daX9_meets_80 (i := 35) rfl
theorem dX9_meets_199 : decode cX9_meets 199 = .ok (.iconst 1, 1) := dq daX9_meets_80 (i := 36) rfl
theorem dX9_meets_200 : decode cX9_meets 200 = .ok (.iadd, 1) := dq daX9_meets_80 (i := 37) rfl
theorem dX9_meets_201 : decode cX9_meets 201 = .ok (.putfield 187, 3) := dq daX9_meets_80 (i := 38) rfl
theorem dX9_meets_204 : decode cX9_meets 204 = .ok (.return_, 1) := dq daX9_meets_80 (i := 39) rfl
theorem daX9_met_0 : dchk cX9_met [(0, .aload_n 0, 1), (1, .invokevirtual 183, 3), (4, .ifCond .ne 5, 3), (7, .iconst 0, 1), (8, .ireturn, 1), (9, .aload_n 0, 1), (10, .iconst 0, 1), (11, .putfield 187, 3), (14, .iconst 0, 1), (15, .istore_n 1, 1), (16, .iload_n 1, 1), (17, .aload_n 0, 1), (18, .getfield 91, 3), (21, .if_icmp .ge 21, 3), (24, .aload_n 0, 1), (25, .getfield 35, 3), (28, .iload_n 1, 1), (29, .aload_n 0, 1), (30, .getfield 11, 3), (33, .iload_n 1, 1), (34, .iaload, 1), (35, .iastore, 1), (36, .iinc 1 1, 3), (39, .goto (-23), 3), (42, .aload_n 0, 1), (43, .iconst 0, 1), (44, .aload_n 0, 1), (45, .getfield 91, 3), (48, .invokevirtual 190, 3), (51, .iconst 0, 1), (52, .istore_n 1, 1), (53, .iload_n 1, 1), (54, .aload_n 0, 1), (55, .getfield 187, 3), (58, .if_icmp .ge 156, 3), (61, .iload_n 1, 1), (62, .bipush 12, 2), (64, .imul, 1), (65, .istore_n 2, 1), (66, .aload_n 0, 1)] = true := by decide +kernel
theorem dX9_met_0 : decode cX9_met 0 = .ok (.aload_n 0, 1) := dq daX9_met_0 (i := 0) rfl
theorem dX9_met_1 : decode cX9_met 1 = .ok (.invokevirtual 183, 3) := dq daX9_met_0 (i := 1) rfl
theorem dX9_met_4 : decode cX9_met 4 = .ok (.ifCond .ne 5, 3) := dq daX9_met_0 (i := 2) rfl
theorem dX9_met_7 : decode cX9_met 7 = .ok (.iconst 0, 1) := dq daX9_met_0 (i := 3) rfl
theorem dX9_met_8 : decode cX9_met 8 = .ok (.ireturn, 1) := dq daX9_met_0 (i := 4) rfl
theorem dX9_met_9 : decode cX9_met 9 = .ok (.aload_n 0, 1) := dq daX9_met_0 (i := 5) rfl
theorem dX9_met_10 : decode cX9_met 10 = .ok (.iconst 0, 1) := dq daX9_met_0 (i := 6) rfl
theorem dX9_met_11 : decode cX9_met 11 = .ok (.putfield 187, 3) := dq daX9_met_0 (i := 7) rfl
theorem dX9_met_14 : decode cX9_met 14 = .ok (.iconst 0, 1) := dq daX9_met_0 (i := 8) rfl
theorem dX9_met_15 : decode cX9_met 15 = .ok (.istore_n 1, 1) := dq daX9_met_0 (i := 9) rfl
theorem dX9_met_16 : decode cX9_met 16 = .ok (.iload_n 1, 1) := dq daX9_met_0 (i := 10) rfl
theorem dX9_met_17 : decode cX9_met 17 = .ok (.aload_n 0, 1) := dq daX9_met_0 (i := 11) rfl
theorem dX9_met_18 : decode cX9_met 18 = .ok (.getfield 91, 3) := dq daX9_met_0 (i := 12) rfl
theorem dX9_met_21 : decode cX9_met 21 = .ok (.if_icmp .ge 21, 3) := dq daX9_met_0 (i := 13) rfl
theorem dX9_met_24 : decode cX9_met 24 = .ok (.aload_n 0, 1) := dq daX9_met_0 (i := 14) rfl
theorem dX9_met_25 : decode cX9_met 25 = .ok (.getfield 35, 3) := dq daX9_met_0 (i := 15) rfl
theorem dX9_met_28 : decode cX9_met 28 = .ok (.iload_n 1, 1) := dq daX9_met_0 (i := 16) rfl
theorem dX9_met_29 : decode cX9_met 29 = .ok (.aload_n 0, 1) := dq daX9_met_0 (i := 17) rfl
theorem dX9_met_30 : decode cX9_met 30 = .ok (.getfield 11, 3) := dq daX9_met_0 (i := 18) rfl
theorem dX9_met_33 : decode cX9_met 33 = .ok (.iload_n 1, 1) := dq daX9_met_0 (i := 19) rfl
theorem dX9_met_34 : decode cX9_met 34 = .ok (.iaload, 1) := dq daX9_met_0 (i := 20) rfl
theorem dX9_met_35 : decode cX9_met 35 = .ok (.iastore, 1) := dq daX9_met_0 (i := 21) rfl
theorem dX9_met_36 : decode cX9_met 36 = .ok (.iinc 1 1, 3) := dq daX9_met_0 (i := 22) rfl
theorem dX9_met_39 : decode cX9_met 39 = .ok (.goto (-23), 3) := dq daX9_met_0 (i := 23) rfl
theorem dX9_met_42 : decode cX9_met 42 = .ok (.aload_n 0, 1) := dq daX9_met_0 (i := 24) rfl
theorem dX9_met_43 : decode cX9_met 43 = .ok (.iconst 0, 1) := dq daX9_met_0 (i := 25) rfl
theorem dX9_met_44 : decode cX9_met 44 = .ok (.aload_n 0, 1) := dq daX9_met_0 (i := 26) rfl
theorem dX9_met_45 : decode cX9_met 45 = .ok (.getfield 91, 3) := dq daX9_met_0 (i := 27) rfl
theorem dX9_met_48 : decode cX9_met 48 = .ok (.invokevirtual 190, 3) := dq daX9_met_0 (i := 28) rfl
theorem dX9_met_51 : decode cX9_met 51 = .ok (.iconst 0, 1) := dq daX9_met_0 (i := 29) rfl
theorem dX9_met_52 : decode cX9_met 52 = .ok (.istore_n 1, 1) := dq daX9_met_0 (i := 30) rfl
theorem dX9_met_53 : decode cX9_met 53 = .ok (.iload_n 1, 1) := dq daX9_met_0 (i := 31) rfl
theorem dX9_met_54 : decode cX9_met 54 = .ok (.aload_n 0, 1) := dq daX9_met_0 (i := 32) rfl
theorem dX9_met_55 : decode cX9_met 55 = .ok (.getfield 187, 3) := dq daX9_met_0 (i := 33) rfl
theorem dX9_met_58 : decode cX9_met 58 = .ok (.if_icmp .ge 156, 3) := dq daX9_met_0 (i := 34) rfl
theorem dX9_met_61 : decode cX9_met 61 = .ok (.iload_n 1, 1) := dq daX9_met_0 (i := 35) rfl
theorem dX9_met_62 : decode cX9_met 62 = .ok (.bipush 12, 2) := dq daX9_met_0 (i := 36) rfl
theorem dX9_met_64 : decode cX9_met 64 = .ok (.imul, 1) := dq daX9_met_0 (i := 37) rfl
theorem dX9_met_65 : decode cX9_met 65 = .ok (.istore_n 2, 1) := dq daX9_met_0 (i := 38) rfl
theorem dX9_met_66 : decode cX9_met 66 = .ok (.aload_n 0, 1) := dq daX9_met_0 (i := 39) rfl
theorem daX9_met_40 : dchk cX9_met [(67, .getfield 38, 3), (70, .iload_n 1, 1), (71, .iaload, 1), (72, .istore_n 3, 1), (73, .aload_n 0, 1), (74, .getfield 88, 3), (77, .aload_n 0, 1), (78, .getfield 35, 3), (81, .iload_n 2, 1), (82, .iload_n 3, 1), (83, .invokestatic 150, 3), (86, .lconst 0, 1), (87, .lcmp, 1), (88, .ifCond .lt 6, 3), (91, .goto 117, 3), (94, .aload_n 0, 1), (95, .getfield 35, 3), (98, .iload_n 2, 1), (99, .iload_n 3, 1), (100, .iconst 0, 1), (101, .invokestatic 138, 3), (104, .ifCond .ne 38, 3), (107, .aload_n 0, 1), (108, .getfield 35, 3), (111, .iload_n 2, 1), (112, .iload_n 3, 1), (113, .iconst 1, 1), (114, .iconst 0, 1), (115, .aload_n 0, 1), (116, .getfield 187, 3), (119, .bipush 12, 2), (121, .imul, 1), (122, .invokestatic 154, 3), (125, .aload_n 0, 1), (126, .aload_n 0, 1), (127, .getfield 187, 3), (130, .bipush 12, 2), (132, .imul, 1), (133, .iload_n 3, 1), (134, .iconst 1, 1)] = true := by decide +kernel
theorem dX9_met_67 : decode cX9_met 67 = .ok (.getfield 38, 3) := dq daX9_met_40 (i := 0) rfl
theorem dX9_met_70 : decode cX9_met 70 = .ok (.iload_n 1, 1) := dq daX9_met_40 (i := 1) rfl
theorem dX9_met_71 : decode cX9_met 71 = .ok (.iaload, 1) := dq daX9_met_40 (i := 2) rfl
theorem dX9_met_72 : decode cX9_met 72 = .ok (.istore_n 3, 1) := dq daX9_met_40 (i := 3) rfl
theorem dX9_met_73 : decode cX9_met 73 = .ok (.aload_n 0, 1) := dq daX9_met_40 (i := 4) rfl
theorem dX9_met_74 : decode cX9_met 74 = .ok (.getfield 88, 3) := dq daX9_met_40 (i := 5) rfl
theorem dX9_met_77 : decode cX9_met 77 = .ok (.aload_n 0, 1) := dq daX9_met_40 (i := 6) rfl
theorem dX9_met_78 : decode cX9_met 78 = .ok (.getfield 35, 3) := dq daX9_met_40 (i := 7) rfl
theorem dX9_met_81 : decode cX9_met 81 = .ok (.iload_n 2, 1) := dq daX9_met_40 (i := 8) rfl
theorem dX9_met_82 : decode cX9_met 82 = .ok (.iload_n 3, 1) := dq daX9_met_40 (i := 9) rfl
theorem dX9_met_83 : decode cX9_met 83 = .ok (.invokestatic 150, 3) := dq daX9_met_40 (i := 10) rfl
theorem dX9_met_86 : decode cX9_met 86 = .ok (.lconst 0, 1) := dq daX9_met_40 (i := 11) rfl
theorem dX9_met_87 : decode cX9_met 87 = .ok (.lcmp, 1) := dq daX9_met_40 (i := 12) rfl
theorem dX9_met_88 : decode cX9_met 88 = .ok (.ifCond .lt 6, 3) := dq daX9_met_40 (i := 13) rfl
theorem dX9_met_91 : decode cX9_met 91 = .ok (.goto 117, 3) := dq daX9_met_40 (i := 14) rfl
theorem dX9_met_94 : decode cX9_met 94 = .ok (.aload_n 0, 1) := dq daX9_met_40 (i := 15) rfl
theorem dX9_met_95 : decode cX9_met 95 = .ok (.getfield 35, 3) := dq daX9_met_40 (i := 16) rfl
theorem dX9_met_98 : decode cX9_met 98 = .ok (.iload_n 2, 1) := dq daX9_met_40 (i := 17) rfl
theorem dX9_met_99 : decode cX9_met 99 = .ok (.iload_n 3, 1) := dq daX9_met_40 (i := 18) rfl
theorem dX9_met_100 : decode cX9_met 100 = .ok (.iconst 0, 1) := dq daX9_met_40 (i := 19) rfl
theorem dX9_met_101 : decode cX9_met 101 = .ok (.invokestatic 138, 3) := dq daX9_met_40 (i := 20) rfl
theorem dX9_met_104 : decode cX9_met 104 = .ok (.ifCond .ne 38, 3) := dq daX9_met_40 (i := 21) rfl
theorem dX9_met_107 : decode cX9_met 107 = .ok (.aload_n 0, 1) := dq daX9_met_40 (i := 22) rfl
theorem dX9_met_108 : decode cX9_met 108 = .ok (.getfield 35, 3) := dq daX9_met_40 (i := 23) rfl
theorem dX9_met_111 : decode cX9_met 111 = .ok (.iload_n 2, 1) := dq daX9_met_40 (i := 24) rfl
theorem dX9_met_112 : decode cX9_met 112 = .ok (.iload_n 3, 1) := dq daX9_met_40 (i := 25) rfl
theorem dX9_met_113 : decode cX9_met 113 = .ok (.iconst 1, 1) := dq daX9_met_40 (i := 26) rfl
theorem dX9_met_114 : decode cX9_met 114 = .ok (.iconst 0, 1) := dq daX9_met_40 (i := 27) rfl
theorem dX9_met_115 : decode cX9_met 115 = .ok (.aload_n 0, 1) := dq daX9_met_40 (i := 28) rfl
theorem dX9_met_116 : decode cX9_met 116 = .ok (.getfield 187, 3) := dq daX9_met_40 (i := 29) rfl
theorem dX9_met_119 : decode cX9_met 119 = .ok (.bipush 12, 2) := dq daX9_met_40 (i := 30) rfl
theorem dX9_met_121 : decode cX9_met 121 = .ok (.imul, 1) := dq daX9_met_40 (i := 31) rfl
theorem dX9_met_122 : decode cX9_met 122 = .ok (.invokestatic 154, 3) := dq daX9_met_40 (i := 32) rfl
theorem dX9_met_125 : decode cX9_met 125 = .ok (.aload_n 0, 1) := dq daX9_met_40 (i := 33) rfl
theorem dX9_met_126 : decode cX9_met 126 = .ok (.aload_n 0, 1) := dq daX9_met_40 (i := 34) rfl
theorem dX9_met_127 : decode cX9_met 127 = .ok (.getfield 187, 3) := dq daX9_met_40 (i := 35) rfl
theorem dX9_met_130 : decode cX9_met 130 = .ok (.bipush 12, 2) := dq daX9_met_40 (i := 36) rfl
theorem dX9_met_132 : decode cX9_met 132 = .ok (.imul, 1) := dq daX9_met_40 (i := 37) rfl
theorem dX9_met_133 : decode cX9_met 133 = .ok (.iload_n 3, 1) := dq daX9_met_40 (i := 38) rfl
theorem dX9_met_134 : decode cX9_met 134 = .ok (.iconst 1, 1) := dq daX9_met_40 (i := 39) rfl
theorem daX9_met_80 : dchk cX9_met [(135, .isub, 1), (136, .invokevirtual 190, 3), (139, .goto 69, 3), (142, .iconst 1, 1), (143, .istore 4, 2), (145, .iload 4, 2), (147, .bipush 12, 2), (149, .if_icmp .gt 59, 3), (152, .aload_n 0, 1), (153, .getfield 35, 3), (156, .iload_n 2, 1), (157, .iload_n 3, 1), (158, .iload 4, 2), (160, .invokestatic 138, 3), (163, .ifCond .ne 6, 3), (166, .goto 36, 3), (169, .aload_n 0, 1), (170, .getfield 35, 3), (173, .iload_n 2, 1), (174, .iload_n 3, 1), (175, .iconst 0, 1), (176, .iload 4, 2), (178, .aload_n 0, 1), (179, .getfield 187, 3), (182, .bipush 12, 2), (184, .imul, 1), (185, .invokestatic 154, 3), (188, .aload_n 0, 1), (189, .aload_n 0, 1), (190, .getfield 187, 3), (193, .bipush 12, 2), (195, .imul, 1), (196, .iload_n 3, 1), (197, .iconst 1, 1), (198, .isub, 1), (199, .invokevirtual 190, 3), (202, .iinc 4 1, 3), (205, .goto (-60), 3), (208, .iinc 1 1, 3), (211, .goto (-158), 3)] = true := by decide +kernel
theorem dX9_met_135 : decode cX9_met 135 = .ok (.isub, 1) := dq daX9_met_80 (i := 0) rfl
theorem dX9_met_136 : decode cX9_met 136 = .ok (.invokevirtual 190, 3) := dq daX9_met_80 (i := 1) rfl
theorem dX9_met_139 : decode cX9_met 139 = .ok (.goto 69, 3) := dq daX9_met_80 (i := 2) rfl
theorem dX9_met_142 : decode cX9_met 142 = .ok (.iconst 1, 1) := dq daX9_met_80 (i := 3) rfl
theorem dX9_met_143 : decode cX9_met 143 = .ok (.istore 4, 2) := dq daX9_met_80 (i := 4) rfl
theorem dX9_met_145 : decode cX9_met 145 = .ok (.iload 4, 2) := dq daX9_met_80 (i := 5) rfl
theorem dX9_met_147 : decode cX9_met 147 = .ok (.bipush 12, 2) := dq daX9_met_80 (i := 6) rfl
theorem dX9_met_149 : decode cX9_met 149 = .ok (.if_icmp .gt 59, 3) := dq daX9_met_80 (i := 7) rfl
theorem dX9_met_152 : decode cX9_met 152 = .ok (.aload_n 0, 1) := dq daX9_met_80 (i := 8) rfl
theorem dX9_met_153 : decode cX9_met 153 = .ok (.getfield 35, 3) := dq daX9_met_80 (i := 9) rfl
theorem dX9_met_156 : decode cX9_met 156 = .ok (.iload_n 2, 1) := dq daX9_met_80 (i := 10) rfl
theorem dX9_met_157 : decode cX9_met 157 = .ok (.iload_n 3, 1) := dq daX9_met_80 (i := 11) rfl
theorem dX9_met_158 : decode cX9_met 158 = .ok (.iload 4, 2) := dq daX9_met_80 (i := 12) rfl
theorem dX9_met_160 : decode cX9_met 160 = .ok (.invokestatic 138, 3) := dq daX9_met_80 (i := 13) rfl
theorem dX9_met_163 : decode cX9_met 163 = .ok (.ifCond .ne 6, 3) := dq daX9_met_80 (i := 14) rfl
theorem dX9_met_166 : decode cX9_met 166 = .ok (.goto 36, 3) := dq daX9_met_80 (i := 15) rfl
theorem dX9_met_169 : decode cX9_met 169 = .ok (.aload_n 0, 1) := dq daX9_met_80 (i := 16) rfl
theorem dX9_met_170 : decode cX9_met 170 = .ok (.getfield 35, 3) := dq daX9_met_80 (i := 17) rfl
theorem dX9_met_173 : decode cX9_met 173 = .ok (.iload_n 2, 1) := dq daX9_met_80 (i := 18) rfl
theorem dX9_met_174 : decode cX9_met 174 = .ok (.iload_n 3, 1) := dq daX9_met_80 (i := 19) rfl
theorem dX9_met_175 : decode cX9_met 175 = .ok (.iconst 0, 1) := dq daX9_met_80 (i := 20) rfl
theorem dX9_met_176 : decode cX9_met 176 = .ok (.iload 4, 2) := dq daX9_met_80 (i := 21) rfl
theorem dX9_met_178 : decode cX9_met 178 = .ok (.aload_n 0, 1) := dq daX9_met_80 (i := 22) rfl
theorem dX9_met_179 : decode cX9_met 179 = .ok (.getfield 187, 3) := dq daX9_met_80 (i := 23) rfl
theorem dX9_met_182 : decode cX9_met 182 = .ok (.bipush 12, 2) := dq daX9_met_80 (i := 24) rfl
theorem dX9_met_184 : decode cX9_met 184 = .ok (.imul, 1) := dq daX9_met_80 (i := 25) rfl
theorem dX9_met_185 : decode cX9_met 185 = .ok (.invokestatic 154, 3) := dq daX9_met_80 (i := 26) rfl
theorem dX9_met_188 : decode cX9_met 188 = .ok (.aload_n 0, 1) := dq daX9_met_80 (i := 27) rfl
theorem dX9_met_189 : decode cX9_met 189 = .ok (.aload_n 0, 1) := dq daX9_met_80 (i := 28) rfl
theorem dX9_met_190 : decode cX9_met 190 = .ok (.getfield 187, 3) := dq daX9_met_80 (i := 29) rfl
theorem dX9_met_193 : decode cX9_met 193 = .ok (.bipush 12, 2) := dq daX9_met_80 (i := 30) rfl
theorem dX9_met_195 : decode cX9_met 195 = .ok (.imul, 1) := dq daX9_met_80 (i := 31) rfl
theorem dX9_met_196 : decode cX9_met 196 = .ok (.iload_n 3, 1) := dq daX9_met_80 (i := 32) rfl
theorem dX9_met_197 : decode cX9_met 197 = .ok (.iconst 1, 1) := dq daX9_met_80 (i := 33) rfl
theorem dX9_met_198 : decode cX9_met 198 = .ok (.isub, 1) := dq daX9_met_80 (i := 34) rfl
theorem dX9_met_199 : decode cX9_met 199 = .ok (.invokevirtual 190, 3) := dq daX9_met_80 (i := 35) rfl
theorem dX9_met_202 : decode cX9_met 202 = .ok (.iinc 4 1, 3) := dq daX9_met_80 (i := 36) rfl
theorem dX9_met_205 : decode cX9_met 205 = .ok (.goto (-60), 3) := dq daX9_met_80 (i := 37) rfl
theorem dX9_met_208 : decode cX9_met 208 = .ok (.iinc 1 1, 3) := dq daX9_met_80 (i := 38) rfl
theorem dX9_met_211 : decode cX9_met 211 = .ok (.goto (-158), 3) := dq daX9_met_80 (i := 39) rfl
theorem daX9_met_120 : dchk cX9_met [(214, .aload_n 0, 1), (215, .getfield 187, 3), (218, .ireturn, 1)] = true := by decide +kernel
theorem dX9_met_214 : decode cX9_met 214 = .ok (.aload_n 0, 1) := dq daX9_met_120 (i := 0) rfl
theorem dX9_met_215 : decode cX9_met 215 = .ok (.getfield 187, 3) := dq daX9_met_120 (i := 1) rfl
theorem dX9_met_218 : decode cX9_met 218 = .ok (.ireturn, 1) := dq daX9_met_120 (i := 2) rfl
theorem daX9_withMore_0 : dchk cX9_withMore [(0, .iconst 0, 1), (1, .istore 5, 2), (3, .iload 5, 2), (5, .aload_n 0, 1), (6, .getfield 91, 3), (9, .if_icmp .ge 23, 3), (12, .aload_n 0, 1), (13, .getfield 31, 3), (16, .iload 5, 2), (18, .aload_n 0, 1), (19, .getfield 11, 3), (22, .iload 5, 2), (24, .iaload, 1), (25, .iastore, 1), (26, .iinc 5 1, 3), (29, .goto (-26), 3), (32, .iload 4, 2), (34, .ifCond .le 15, 3), (37, .aload_n 0, 1), (38, .getfield 31, 3), (41, .aload_n 0, 1), (42, .getfield 91, 3), (45, .iload_n 1, 1), (46, .iconst 1, 1), (47, .iadd, 1), (48, .iastore, 1), (49, .iload 4, 2), (51, .iconst 1, 1), (52, .if_icmp .le 17, 3), (55, .aload_n 0, 1), (56, .getfield 31, 3), (59, .aload_n 0, 1), (60, .getfield 91, 3), (63, .iconst 1, 1), (64, .iadd, 1), (65, .iload_n 2, 1), (66, .iconst 1, 1), (67, .iadd, 1), (68, .iastore, 1), (69, .iload 4, 2)] = true := by decide +kernel
theorem dX9_withMore_0 : decode cX9_withMore 0 = .ok (.iconst 0, 1) := dq daX9_withMore_0 (i := 0) rfl
theorem dX9_withMore_1 : decode cX9_withMore 1 = .ok (.istore 5, 2) := dq daX9_withMore_0 (i := 1) rfl
theorem dX9_withMore_3 : decode cX9_withMore 3 = .ok (.iload 5, 2) := dq daX9_withMore_0 (i := 2) rfl
theorem dX9_withMore_5 : decode cX9_withMore 5 = .ok (.aload_n 0, 1) := dq daX9_withMore_0 (i := 3) rfl
theorem dX9_withMore_6 : decode cX9_withMore 6 = .ok (.getfield 91, 3) := dq daX9_withMore_0 (i := 4) rfl
theorem dX9_withMore_9 : decode cX9_withMore 9 = .ok (.if_icmp .ge 23, 3) := dq daX9_withMore_0 (i := 5) rfl
theorem dX9_withMore_12 : decode cX9_withMore 12 = .ok (.aload_n 0, 1) := dq daX9_withMore_0 (i := 6) rfl
theorem dX9_withMore_13 : decode cX9_withMore 13 = .ok (.getfield 31, 3) := dq daX9_withMore_0 (i := 7) rfl
theorem dX9_withMore_16 : decode cX9_withMore 16 = .ok (.iload 5, 2) := dq daX9_withMore_0 (i := 8) rfl
theorem dX9_withMore_18 : decode cX9_withMore 18 = .ok (.aload_n 0, 1) := dq daX9_withMore_0 (i := 9) rfl
theorem dX9_withMore_19 : decode cX9_withMore 19 = .ok (.getfield 11, 3) := dq daX9_withMore_0 (i := 10) rfl
theorem dX9_withMore_22 : decode cX9_withMore 22 = .ok (.iload 5, 2) := dq daX9_withMore_0 (i := 11) rfl
theorem dX9_withMore_24 : decode cX9_withMore 24 = .ok (.iaload, 1) := dq daX9_withMore_0 (i := 12) rfl
theorem dX9_withMore_25 : decode cX9_withMore 25 = .ok (.iastore, 1) := dq daX9_withMore_0 (i := 13) rfl
theorem dX9_withMore_26 : decode cX9_withMore 26 = .ok (.iinc 5 1, 3) := dq daX9_withMore_0 (i := 14) rfl
theorem dX9_withMore_29 : decode cX9_withMore 29 = .ok (.goto (-26), 3) := dq daX9_withMore_0 (i := 15) rfl
theorem dX9_withMore_32 : decode cX9_withMore 32 = .ok (.iload 4, 2) := dq daX9_withMore_0 (i := 16) rfl
theorem dX9_withMore_34 : decode cX9_withMore 34 = .ok (.ifCond .le 15, 3) := dq daX9_withMore_0 (i := 17) rfl
theorem dX9_withMore_37 : decode cX9_withMore 37 = .ok (.aload_n 0, 1) := dq daX9_withMore_0 (i := 18) rfl
theorem dX9_withMore_38 : decode cX9_withMore 38 = .ok (.getfield 31, 3) := dq daX9_withMore_0 (i := 19) rfl
theorem dX9_withMore_41 : decode cX9_withMore 41 = .ok (.aload_n 0, 1) := dq daX9_withMore_0 (i := 20) rfl
theorem dX9_withMore_42 : decode cX9_withMore 42 = .ok (.getfield 91, 3) := dq daX9_withMore_0 (i := 21) rfl
theorem dX9_withMore_45 : decode cX9_withMore 45 = .ok (.iload_n 1, 1) := dq daX9_withMore_0 (i := 22) rfl
theorem dX9_withMore_46 : decode cX9_withMore 46 = .ok (.iconst 1, 1) := dq daX9_withMore_0 (i := 23) rfl
theorem dX9_withMore_47 : decode cX9_withMore 47 = .ok (.iadd, 1) := dq daX9_withMore_0 (i := 24) rfl
theorem dX9_withMore_48 : decode cX9_withMore 48 = .ok (.iastore, 1) := dq daX9_withMore_0 (i := 25) rfl
theorem dX9_withMore_49 : decode cX9_withMore 49 = .ok (.iload 4, 2) := dq daX9_withMore_0 (i := 26) rfl
theorem dX9_withMore_51 : decode cX9_withMore 51 = .ok (.iconst 1, 1) := dq daX9_withMore_0 (i := 27) rfl
theorem dX9_withMore_52 : decode cX9_withMore 52 = .ok (.if_icmp .le 17, 3) := dq daX9_withMore_0 (i := 28) rfl
theorem dX9_withMore_55 : decode cX9_withMore 55 = .ok (.aload_n 0, 1) := dq daX9_withMore_0 (i := 29) rfl
theorem dX9_withMore_56 : decode cX9_withMore 56 = .ok (.getfield 31, 3) := dq daX9_withMore_0 (i := 30) rfl
theorem dX9_withMore_59 : decode cX9_withMore 59 = .ok (.aload_n 0, 1) := dq daX9_withMore_0 (i := 31) rfl
theorem dX9_withMore_60 : decode cX9_withMore 60 = .ok (.getfield 91, 3) := dq daX9_withMore_0 (i := 32) rfl
theorem dX9_withMore_63 : decode cX9_withMore 63 = .ok (.iconst 1, 1) := dq daX9_withMore_0 (i := 33) rfl
theorem dX9_withMore_64 : decode cX9_withMore 64 = .ok (.iadd, 1) := dq daX9_withMore_0 (i := 34) rfl
theorem dX9_withMore_65 : decode cX9_withMore 65 = .ok (.iload_n 2, 1) := dq daX9_withMore_0 (i := 35) rfl
theorem dX9_withMore_66 : decode cX9_withMore 66 = .ok (.iconst 1, 1) := dq daX9_withMore_0 (i := 36) rfl
theorem dX9_withMore_67 : decode cX9_withMore 67 = .ok (.iadd, 1) := dq daX9_withMore_0 (i := 37) rfl
theorem dX9_withMore_68 : decode cX9_withMore 68 = .ok (.iastore, 1) := dq daX9_withMore_0 (i := 38) rfl
theorem dX9_withMore_69 : decode cX9_withMore 69 = .ok (.iload 4, 2) := dq daX9_withMore_0 (i := 39) rfl
theorem daX9_withMore_40 : dchk cX9_withMore [(71, .iconst 2, 1), (72, .if_icmp .le 17, 3), (75, .aload_n 0, 1), (76, .getfield 31, 3), (79, .aload_n 0, 1), (80, .getfield 91, 3), (83, .iconst 2, 1), (84, .iadd, 1), (85, .iload_n 3, 1), (86, .iconst 1, 1), (87, .iadd, 1), (88, .iastore, 1), (89, .aload_n 0, 1), (90, .aload_n 0, 1), (91, .getfield 88, 3), (94, .aload_n 0, 1), (95, .getfield 91, 3), (98, .iload 4, 2), (100, .iadd, 1), (101, .invokevirtual 165, 3), (104, .lreturn, 1)] = true := by decide +kernel
theorem dX9_withMore_71 : decode cX9_withMore 71 = .ok (.iconst 2, 1) := dq daX9_withMore_40 (i := 0) rfl
theorem dX9_withMore_72 : decode cX9_withMore 72 = .ok (.if_icmp .le 17, 3) := dq daX9_withMore_40 (i := 1) rfl
theorem dX9_withMore_75 : decode cX9_withMore 75 = .ok (.aload_n 0, 1) := dq daX9_withMore_40 (i := 2) rfl
theorem dX9_withMore_76 : decode cX9_withMore 76 = .ok (.getfield 31, 3) := dq daX9_withMore_40 (i := 3) rfl
theorem dX9_withMore_79 : decode cX9_withMore 79 = .ok (.aload_n 0, 1) := dq daX9_withMore_40 (i := 4) rfl
theorem dX9_withMore_80 : decode cX9_withMore 80 = .ok (.getfield 91, 3) := dq daX9_withMore_40 (i := 5) rfl
theorem dX9_withMore_83 : decode cX9_withMore 83 = .ok (.iconst 2, 1) := dq daX9_withMore_40 (i := 6) rfl
theorem dX9_withMore_84 : decode cX9_withMore 84 = .ok (.iadd, 1) := dq daX9_withMore_40 (i := 7) rfl
theorem dX9_withMore_85 : decode cX9_withMore 85 = .ok (.iload_n 3, 1) := dq daX9_withMore_40 (i := 8) rfl
theorem dX9_withMore_86 : decode cX9_withMore 86 = .ok (.iconst 1, 1) := dq daX9_withMore_40 (i := 9) rfl
theorem dX9_withMore_87 : decode cX9_withMore 87 = .ok (.iadd, 1) := dq daX9_withMore_40 (i := 10) rfl
theorem dX9_withMore_88 : decode cX9_withMore 88 = .ok (.iastore, 1) := dq daX9_withMore_40 (i := 11) rfl
theorem dX9_withMore_89 : decode cX9_withMore 89 = .ok (.aload_n 0, 1) := dq daX9_withMore_40 (i := 12) rfl
theorem dX9_withMore_90 : decode cX9_withMore 90 = .ok (.aload_n 0, 1) := dq daX9_withMore_40 (i := 13) rfl
theorem dX9_withMore_91 : decode cX9_withMore 91 = .ok (.getfield 88, 3) := dq daX9_withMore_40 (i := 14) rfl
theorem dX9_withMore_94 : decode cX9_withMore 94 = .ok (.aload_n 0, 1) := dq daX9_withMore_40 (i := 15) rfl
theorem dX9_withMore_95 : decode cX9_withMore 95 = .ok (.getfield 91, 3) := dq daX9_withMore_40 (i := 16) rfl
theorem dX9_withMore_98 : decode cX9_withMore 98 = .ok (.iload 4, 2) := dq daX9_withMore_40 (i := 17) rfl
theorem dX9_withMore_100 : decode cX9_withMore 100 = .ok (.iadd, 1) := dq daX9_withMore_40 (i := 18) rfl
theorem dX9_withMore_101 : decode cX9_withMore 101 = .ok (.invokevirtual 165, 3) := dq daX9_withMore_40 (i := 19) rfl
theorem dX9_withMore_104 : decode cX9_withMore 104 = .ok (.lreturn, 1) := dq daX9_withMore_40 (i := 20) rfl
theorem daX9_kappaOne_0 : dchk cX9_kappaOne [(0, .aload_n 0, 1), (1, .iload_n 1, 1), (2, .iconst 0, 1), (3, .iconst 0, 1), (4, .iconst 1, 1), (5, .invokevirtual 194, 3), (8, .lreturn, 1)] = true := by decide +kernel
theorem dX9_kappaOne_0 : decode cX9_kappaOne 0 = .ok (.aload_n 0, 1) := dq daX9_kappaOne_0 (i := 0) rfl
theorem dX9_kappaOne_1 : decode cX9_kappaOne 1 = .ok (.iload_n 1, 1) := dq daX9_kappaOne_0 (i := 1) rfl
theorem dX9_kappaOne_2 : decode cX9_kappaOne 2 = .ok (.iconst 0, 1) := dq daX9_kappaOne_0 (i := 2) rfl
theorem dX9_kappaOne_3 : decode cX9_kappaOne 3 = .ok (.iconst 0, 1) := dq daX9_kappaOne_0 (i := 3) rfl
theorem dX9_kappaOne_4 : decode cX9_kappaOne 4 = .ok (.iconst 1, 1) := dq daX9_kappaOne_0 (i := 4) rfl
theorem dX9_kappaOne_5 : decode cX9_kappaOne 5 = .ok (.invokevirtual 194, 3) := dq daX9_kappaOne_0 (i := 5) rfl
theorem dX9_kappaOne_8 : decode cX9_kappaOne 8 = .ok (.lreturn, 1) := dq daX9_kappaOne_0 (i := 6) rfl
theorem daX9_kappaTwo_0 : dchk cX9_kappaTwo [(0, .aload_n 0, 1), (1, .iload_n 1, 1), (2, .iload_n 2, 1), (3, .iconst 0, 1), (4, .iconst 2, 1), (5, .invokevirtual 194, 3), (8, .aload_n 0, 1), (9, .iload_n 1, 1), (10, .iload_n 2, 1), (11, .iadd, 1), (12, .invokevirtual 198, 3), (15, .lsub, 1), (16, .lreturn, 1)] = true := by decide +kernel
theorem dX9_kappaTwo_0 : decode cX9_kappaTwo 0 = .ok (.aload_n 0, 1) := dq daX9_kappaTwo_0 (i := 0) rfl
theorem dX9_kappaTwo_1 : decode cX9_kappaTwo 1 = .ok (.iload_n 1, 1) := dq daX9_kappaTwo_0 (i := 1) rfl
theorem dX9_kappaTwo_2 : decode cX9_kappaTwo 2 = .ok (.iload_n 2, 1) := dq daX9_kappaTwo_0 (i := 2) rfl
theorem dX9_kappaTwo_3 : decode cX9_kappaTwo 3 = .ok (.iconst 0, 1) := dq daX9_kappaTwo_0 (i := 3) rfl
theorem dX9_kappaTwo_4 : decode cX9_kappaTwo 4 = .ok (.iconst 2, 1) := dq daX9_kappaTwo_0 (i := 4) rfl
theorem dX9_kappaTwo_5 : decode cX9_kappaTwo 5 = .ok (.invokevirtual 194, 3) := dq daX9_kappaTwo_0 (i := 5) rfl
theorem dX9_kappaTwo_8 : decode cX9_kappaTwo 8 = .ok (.aload_n 0, 1) := dq daX9_kappaTwo_0 (i := 6) rfl
theorem dX9_kappaTwo_9 : decode cX9_kappaTwo 9 = .ok (.iload_n 1, 1) := dq daX9_kappaTwo_0 (i := 7) rfl
theorem dX9_kappaTwo_10 : decode cX9_kappaTwo 10 = .ok (.iload_n 2, 1) := dq daX9_kappaTwo_0 (i := 8) rfl
theorem dX9_kappaTwo_11 : decode cX9_kappaTwo 11 = .ok (.iadd, 1) := dq daX9_kappaTwo_0 (i := 9) rfl
theorem dX9_kappaTwo_12 : decode cX9_kappaTwo 12 = .ok (.invokevirtual 198, 3) := dq daX9_kappaTwo_0 (i := 10) rfl
theorem dX9_kappaTwo_15 : decode cX9_kappaTwo 15 = .ok (.lsub, 1) := dq daX9_kappaTwo_0 (i := 11) rfl
theorem dX9_kappaTwo_16 : decode cX9_kappaTwo 16 = .ok (.lreturn, 1) := dq daX9_kappaTwo_0 (i := 12) rfl
theorem daX9_kappa_0 : dchk cX9_kappa [(0, .iload_n 1, 1), (1, .i2l, 1), (2, .ldc2_w 142, 3), (5, .ldc2_w 201, 3), (8, .invokestatic 110, 3), (11, .ifCond .eq 58, 3), (14, .iload_n 2, 1), (15, .i2l, 1), (16, .ldc2_w 142, 3), (19, .ldc2_w 201, 3), (22, .invokestatic 110, 3), (25, .ifCond .eq 44, 3), (28, .iload_n 3, 1), (29, .i2l, 1), (30, .ldc2_w 142, 3), (33, .ldc2_w 201, 3), (36, .invokestatic 110, 3), (39, .ifCond .eq 30, 3), (42, .iload_n 1, 1), (43, .ifCond .ge 7, 3), (46, .iload_n 2, 1), (47, .ifCond .ge 22, 3), (50, .iload_n 2, 1), (51, .ifCond .ge 7, 3), (54, .iload_n 3, 1), (55, .ifCond .ge 14, 3), (58, .iload 4, 2), (60, .i2l, 1), (61, .lconst 0, 1), (62, .lconst 1, 1), (63, .invokestatic 110, 3), (66, .ifCond .ne 7, 3), (69, .ldc2_w 181, 3), (72, .lreturn, 1), (73, .iload_n 1, 1), (74, .ifCond .ge 12, 3), (77, .aload_n 0, 1), (78, .invokevirtual 169, 3), (81, .lstore 5, 2), (83, .goto 83, 3)] = true := by decide +kernel
theorem dX9_kappa_0 : decode cX9_kappa 0 = .ok (.iload_n 1, 1) := dq daX9_kappa_0 (i := 0) rfl
theorem dX9_kappa_1 : decode cX9_kappa 1 = .ok (.i2l, 1) := dq daX9_kappa_0 (i := 1) rfl
theorem dX9_kappa_2 : decode cX9_kappa 2 = .ok (.ldc2_w 142, 3) := dq daX9_kappa_0 (i := 2) rfl
theorem dX9_kappa_5 : decode cX9_kappa 5 = .ok (.ldc2_w 201, 3) := dq daX9_kappa_0 (i := 3) rfl
theorem dX9_kappa_8 : decode cX9_kappa 8 = .ok (.invokestatic 110, 3) := dq daX9_kappa_0 (i := 4) rfl
theorem dX9_kappa_11 : decode cX9_kappa 11 = .ok (.ifCond .eq 58, 3) := dq daX9_kappa_0 (i := 5) rfl
theorem dX9_kappa_14 : decode cX9_kappa 14 = .ok (.iload_n 2, 1) := dq daX9_kappa_0 (i := 6) rfl
theorem dX9_kappa_15 : decode cX9_kappa 15 = .ok (.i2l, 1) := dq daX9_kappa_0 (i := 7) rfl
theorem dX9_kappa_16 : decode cX9_kappa 16 = .ok (.ldc2_w 142, 3) := dq daX9_kappa_0 (i := 8) rfl
theorem dX9_kappa_19 : decode cX9_kappa 19 = .ok (.ldc2_w 201, 3) := dq daX9_kappa_0 (i := 9) rfl
theorem dX9_kappa_22 : decode cX9_kappa 22 = .ok (.invokestatic 110, 3) := dq daX9_kappa_0 (i := 10) rfl
theorem dX9_kappa_25 : decode cX9_kappa 25 = .ok (.ifCond .eq 44, 3) := dq daX9_kappa_0 (i := 11) rfl
theorem dX9_kappa_28 : decode cX9_kappa 28 = .ok (.iload_n 3, 1) := dq daX9_kappa_0 (i := 12) rfl
theorem dX9_kappa_29 : decode cX9_kappa 29 = .ok (.i2l, 1) := dq daX9_kappa_0 (i := 13) rfl
theorem dX9_kappa_30 : decode cX9_kappa 30 = .ok (.ldc2_w 142, 3) := dq daX9_kappa_0 (i := 14) rfl
theorem dX9_kappa_33 : decode cX9_kappa 33 = .ok (.ldc2_w 201, 3) := dq daX9_kappa_0 (i := 15) rfl
theorem dX9_kappa_36 : decode cX9_kappa 36 = .ok (.invokestatic 110, 3) := dq daX9_kappa_0 (i := 16) rfl
theorem dX9_kappa_39 : decode cX9_kappa 39 = .ok (.ifCond .eq 30, 3) := dq daX9_kappa_0 (i := 17) rfl
theorem dX9_kappa_42 : decode cX9_kappa 42 = .ok (.iload_n 1, 1) := dq daX9_kappa_0 (i := 18) rfl
theorem dX9_kappa_43 : decode cX9_kappa 43 = .ok (.ifCond .ge 7, 3) := dq daX9_kappa_0 (i := 19) rfl
theorem dX9_kappa_46 : decode cX9_kappa 46 = .ok (.iload_n 2, 1) := dq daX9_kappa_0 (i := 20) rfl
theorem dX9_kappa_47 : decode cX9_kappa 47 = .ok (.ifCond .ge 22, 3) := dq daX9_kappa_0 (i := 21) rfl
theorem dX9_kappa_50 : decode cX9_kappa 50 = .ok (.iload_n 2, 1) := dq daX9_kappa_0 (i := 22) rfl
theorem dX9_kappa_51 : decode cX9_kappa 51 = .ok (.ifCond .ge 7, 3) := dq daX9_kappa_0 (i := 23) rfl
theorem dX9_kappa_54 : decode cX9_kappa 54 = .ok (.iload_n 3, 1) := dq daX9_kappa_0 (i := 24) rfl
theorem dX9_kappa_55 : decode cX9_kappa 55 = .ok (.ifCond .ge 14, 3) := dq daX9_kappa_0 (i := 25) rfl
theorem dX9_kappa_58 : decode cX9_kappa 58 = .ok (.iload 4, 2) := dq daX9_kappa_0 (i := 26) rfl
theorem dX9_kappa_60 : decode cX9_kappa 60 = .ok (.i2l, 1) := dq daX9_kappa_0 (i := 27) rfl
theorem dX9_kappa_61 : decode cX9_kappa 61 = .ok (.lconst 0, 1) := dq daX9_kappa_0 (i := 28) rfl
theorem dX9_kappa_62 : decode cX9_kappa 62 = .ok (.lconst 1, 1) := dq daX9_kappa_0 (i := 29) rfl
theorem dX9_kappa_63 : decode cX9_kappa 63 = .ok (.invokestatic 110, 3) := dq daX9_kappa_0 (i := 30) rfl
theorem dX9_kappa_66 : decode cX9_kappa 66 = .ok (.ifCond .ne 7, 3) := dq daX9_kappa_0 (i := 31) rfl
theorem dX9_kappa_69 : decode cX9_kappa 69 = .ok (.ldc2_w 181, 3) := dq daX9_kappa_0 (i := 32) rfl
theorem dX9_kappa_72 : decode cX9_kappa 72 = .ok (.lreturn, 1) := dq daX9_kappa_0 (i := 33) rfl
theorem dX9_kappa_73 : decode cX9_kappa 73 = .ok (.iload_n 1, 1) := dq daX9_kappa_0 (i := 34) rfl
theorem dX9_kappa_74 : decode cX9_kappa 74 = .ok (.ifCond .ge 12, 3) := dq daX9_kappa_0 (i := 35) rfl
theorem dX9_kappa_77 : decode cX9_kappa 77 = .ok (.aload_n 0, 1) := dq daX9_kappa_0 (i := 36) rfl
theorem dX9_kappa_78 : decode cX9_kappa 78 = .ok (.invokevirtual 169, 3) := dq daX9_kappa_0 (i := 37) rfl
theorem dX9_kappa_81 : decode cX9_kappa 81 = .ok (.lstore 5, 2) := dq daX9_kappa_0 (i := 38) rfl
theorem dX9_kappa_83 : decode cX9_kappa 83 = .ok (.goto 83, 3) := dq daX9_kappa_0 (i := 39) rfl
theorem daX9_kappa_40 : dchk cX9_kappa [(86, .iload_n 2, 1), (87, .ifCond .ge 13, 3), (90, .aload_n 0, 1), (91, .iload_n 1, 1), (92, .invokevirtual 198, 3), (95, .lstore 5, 2), (97, .goto 69, 3), (100, .iload_n 3, 1), (101, .ifCond .ge 14, 3), (104, .aload_n 0, 1), (105, .iload_n 1, 1), (106, .iload_n 2, 1), (107, .invokevirtual 203, 3), (110, .lstore 5, 2), (112, .goto 54, 3), (115, .aload_n 0, 1), (116, .iload_n 1, 1), (117, .iload_n 2, 1), (118, .iload_n 3, 1), (119, .iconst 3, 1), (120, .invokevirtual 194, 3), (123, .aload_n 0, 1), (124, .iload_n 1, 1), (125, .iload_n 2, 1), (126, .iadd, 1), (127, .iload_n 3, 1), (128, .invokevirtual 203, 3), (131, .lsub, 1), (132, .aload_n 0, 1), (133, .iload_n 1, 1), (134, .iload_n 3, 1), (135, .iadd, 1), (136, .iload_n 2, 1), (137, .invokevirtual 203, 3), (140, .lsub, 1), (141, .aload_n 0, 1), (142, .iload_n 2, 1), (143, .iload_n 3, 1), (144, .iadd, 1), (145, .iload_n 1, 1)] = true := by decide +kernel
theorem dX9_kappa_86 : decode cX9_kappa 86 = .ok (.iload_n 2, 1) := dq daX9_kappa_40 (i := 0) rfl
theorem dX9_kappa_87 : decode cX9_kappa 87 = .ok (.ifCond .ge 13, 3) := dq daX9_kappa_40 (i := 1) rfl
theorem dX9_kappa_90 : decode cX9_kappa 90 = .ok (.aload_n 0, 1) := dq daX9_kappa_40 (i := 2) rfl
theorem dX9_kappa_91 : decode cX9_kappa 91 = .ok (.iload_n 1, 1) := dq daX9_kappa_40 (i := 3) rfl
theorem dX9_kappa_92 : decode cX9_kappa 92 = .ok (.invokevirtual 198, 3) := dq daX9_kappa_40 (i := 4) rfl
theorem dX9_kappa_95 : decode cX9_kappa 95 = .ok (.lstore 5, 2) := dq daX9_kappa_40 (i := 5) rfl
theorem dX9_kappa_97 : decode cX9_kappa 97 = .ok (.goto 69, 3) := dq daX9_kappa_40 (i := 6) rfl
theorem dX9_kappa_100 : decode cX9_kappa 100 = .ok (.iload_n 3, 1) := dq daX9_kappa_40 (i := 7) rfl
theorem dX9_kappa_101 : decode cX9_kappa 101 = .ok (.ifCond .ge 14, 3) := dq daX9_kappa_40 (i := 8) rfl
theorem dX9_kappa_104 : decode cX9_kappa 104 = .ok (.aload_n 0, 1) := dq daX9_kappa_40 (i := 9) rfl
theorem dX9_kappa_105 : decode cX9_kappa 105 = .ok (.iload_n 1, 1) := dq daX9_kappa_40 (i := 10) rfl
theorem dX9_kappa_106 : decode cX9_kappa 106 = .ok (.iload_n 2, 1) := dq daX9_kappa_40 (i := 11) rfl
theorem dX9_kappa_107 : decode cX9_kappa 107 = .ok (.invokevirtual 203, 3) := dq daX9_kappa_40 (i := 12) rfl
theorem dX9_kappa_110 : decode cX9_kappa 110 = .ok (.lstore 5, 2) := dq daX9_kappa_40 (i := 13) rfl
theorem dX9_kappa_112 : decode cX9_kappa 112 = .ok (.goto 54, 3) := dq daX9_kappa_40 (i := 14) rfl
theorem dX9_kappa_115 : decode cX9_kappa 115 = .ok (.aload_n 0, 1) := dq daX9_kappa_40 (i := 15) rfl
theorem dX9_kappa_116 : decode cX9_kappa 116 = .ok (.iload_n 1, 1) := dq daX9_kappa_40 (i := 16) rfl
theorem dX9_kappa_117 : decode cX9_kappa 117 = .ok (.iload_n 2, 1) := dq daX9_kappa_40 (i := 17) rfl
theorem dX9_kappa_118 : decode cX9_kappa 118 = .ok (.iload_n 3, 1) := dq daX9_kappa_40 (i := 18) rfl
theorem dX9_kappa_119 : decode cX9_kappa 119 = .ok (.iconst 3, 1) := dq daX9_kappa_40 (i := 19) rfl
theorem dX9_kappa_120 : decode cX9_kappa 120 = .ok (.invokevirtual 194, 3) := dq daX9_kappa_40 (i := 20) rfl
theorem dX9_kappa_123 : decode cX9_kappa 123 = .ok (.aload_n 0, 1) := dq daX9_kappa_40 (i := 21) rfl
theorem dX9_kappa_124 : decode cX9_kappa 124 = .ok (.iload_n 1, 1) := dq daX9_kappa_40 (i := 22) rfl
theorem dX9_kappa_125 : decode cX9_kappa 125 = .ok (.iload_n 2, 1) := dq daX9_kappa_40 (i := 23) rfl
theorem dX9_kappa_126 : decode cX9_kappa 126 = .ok (.iadd, 1) := dq daX9_kappa_40 (i := 24) rfl
theorem dX9_kappa_127 : decode cX9_kappa 127 = .ok (.iload_n 3, 1) := dq daX9_kappa_40 (i := 25) rfl
theorem dX9_kappa_128 : decode cX9_kappa 128 = .ok (.invokevirtual 203, 3) := dq daX9_kappa_40 (i := 26) rfl
theorem dX9_kappa_131 : decode cX9_kappa 131 = .ok (.lsub, 1) := dq daX9_kappa_40 (i := 27) rfl
theorem dX9_kappa_132 : decode cX9_kappa 132 = .ok (.aload_n 0, 1) := dq daX9_kappa_40 (i := 28) rfl
theorem dX9_kappa_133 : decode cX9_kappa 133 = .ok (.iload_n 1, 1) := dq daX9_kappa_40 (i := 29) rfl
theorem dX9_kappa_134 : decode cX9_kappa 134 = .ok (.iload_n 3, 1) := dq daX9_kappa_40 (i := 30) rfl
theorem dX9_kappa_135 : decode cX9_kappa 135 = .ok (.iadd, 1) := dq daX9_kappa_40 (i := 31) rfl
theorem dX9_kappa_136 : decode cX9_kappa 136 = .ok (.iload_n 2, 1) := dq daX9_kappa_40 (i := 32) rfl
theorem dX9_kappa_137 : decode cX9_kappa 137 = .ok (.invokevirtual 203, 3) := dq daX9_kappa_40 (i := 33) rfl
theorem dX9_kappa_140 : decode cX9_kappa 140 = .ok (.lsub, 1) := dq daX9_kappa_40 (i := 34) rfl
theorem dX9_kappa_141 : decode cX9_kappa 141 = .ok (.aload_n 0, 1) := dq daX9_kappa_40 (i := 35) rfl
theorem dX9_kappa_142 : decode cX9_kappa 142 = .ok (.iload_n 2, 1) := dq daX9_kappa_40 (i := 36) rfl
theorem dX9_kappa_143 : decode cX9_kappa 143 = .ok (.iload_n 3, 1) := dq daX9_kappa_40 (i := 37) rfl
theorem dX9_kappa_144 : decode cX9_kappa 144 = .ok (.iadd, 1) := dq daX9_kappa_40 (i := 38) rfl
theorem dX9_kappa_145 : decode cX9_kappa 145 = .ok (.iload_n 1, 1) := dq daX9_kappa_40 (i := 39) rfl
theorem daX9_kappa_80 : dchk cX9_kappa [(146, .invokevirtual 203, 3), (149, .lsub, 1), (150, .ldc2_w 114, 3), (153, .aload_n 0, 1), (154, .iload_n 1, 1), (155, .iload_n 2, 1), (156, .iadd, 1), (157, .iload_n 3, 1), (158, .iadd, 1), (159, .invokevirtual 198, 3), (162, .lmul, 1), (163, .lsub, 1), (164, .lstore 5, 2), (166, .lload 5, 2), (168, .aload_n 0, 1), (169, .getfield 88, 3), (172, .invokestatic 173, 3), (175, .iload 4, 2), (177, .invokestatic 177, 3), (180, .lreturn, 1)] = true := by decide +kernel
theorem dX9_kappa_146 : decode cX9_kappa 146 = .ok (.invokevirtual 203, 3) := dq daX9_kappa_80 (i := 0) rfl
theorem dX9_kappa_149 : decode cX9_kappa 149 = .ok (.lsub, 1) := dq daX9_kappa_80 (i := 1) rfl
theorem dX9_kappa_150 : decode cX9_kappa 150 = .ok (.ldc2_w 114, 3) := dq daX9_kappa_80 (i := 2) rfl
theorem dX9_kappa_153 : decode cX9_kappa 153 = .ok (.aload_n 0, 1) := dq daX9_kappa_80 (i := 3) rfl
theorem dX9_kappa_154 : decode cX9_kappa 154 = .ok (.iload_n 1, 1) := dq daX9_kappa_80 (i := 4) rfl
theorem dX9_kappa_155 : decode cX9_kappa 155 = .ok (.iload_n 2, 1) := dq daX9_kappa_80 (i := 5) rfl
theorem dX9_kappa_156 : decode cX9_kappa 156 = .ok (.iadd, 1) := dq daX9_kappa_80 (i := 6) rfl
theorem dX9_kappa_157 : decode cX9_kappa 157 = .ok (.iload_n 3, 1) := dq daX9_kappa_80 (i := 7) rfl
theorem dX9_kappa_158 : decode cX9_kappa 158 = .ok (.iadd, 1) := dq daX9_kappa_80 (i := 8) rfl
theorem dX9_kappa_159 : decode cX9_kappa 159 = .ok (.invokevirtual 198, 3) := dq daX9_kappa_80 (i := 9) rfl
theorem dX9_kappa_162 : decode cX9_kappa 162 = .ok (.lmul, 1) := dq daX9_kappa_80 (i := 10) rfl
theorem dX9_kappa_163 : decode cX9_kappa 163 = .ok (.lsub, 1) := dq daX9_kappa_80 (i := 11) rfl
theorem dX9_kappa_164 : decode cX9_kappa 164 = .ok (.lstore 5, 2) := dq daX9_kappa_80 (i := 12) rfl
theorem dX9_kappa_166 : decode cX9_kappa 166 = .ok (.lload 5, 2) := dq daX9_kappa_80 (i := 13) rfl
theorem dX9_kappa_168 : decode cX9_kappa 168 = .ok (.aload_n 0, 1) := dq daX9_kappa_80 (i := 14) rfl
theorem dX9_kappa_169 : decode cX9_kappa 169 = .ok (.getfield 88, 3) := dq daX9_kappa_80 (i := 15) rfl
theorem dX9_kappa_172 : decode cX9_kappa 172 = .ok (.invokestatic 173, 3) := dq daX9_kappa_80 (i := 16) rfl
theorem dX9_kappa_175 : decode cX9_kappa 175 = .ok (.iload 4, 2) := dq daX9_kappa_80 (i := 17) rfl
theorem dX9_kappa_177 : decode cX9_kappa 177 = .ok (.invokestatic 177, 3) := dq daX9_kappa_80 (i := 18) rfl
theorem dX9_kappa_180 : decode cX9_kappa 180 = .ok (.lreturn, 1) := dq daX9_kappa_80 (i := 19) rfl
theorem daX9_isSplit_0 : dchk cX9_isSplit [(0, .iload_n 0, 1), (1, .i2l, 1), (2, .lconst 0, 1), (3, .iconst 1, 1), (4, .iload_n 1, 1), (5, .ishl, 1), (6, .iconst 1, 1), (7, .isub, 1), (8, .i2l, 1), (9, .invokestatic 110, 3), (12, .ifCond .eq 31, 3), (15, .iload_n 0, 1), (16, .iconst 1, 1), (17, .iand, 1), (18, .ifCond .ne 25, 3), (21, .iload_n 0, 1), (22, .invokestatic 206, 3), (25, .i2l, 1), (26, .ldc2_w 114, 3), (29, .iload_n 1, 1), (30, .iconst 2, 1), (31, .isub, 1), (32, .i2l, 1), (33, .invokestatic 110, 3), (36, .ifCond .eq 7, 3), (39, .iconst 1, 1), (40, .goto 4, 3), (43, .iconst 0, 1), (44, .ireturn, 1)] = true := by decide +kernel
theorem dX9_isSplit_0 : decode cX9_isSplit 0 = .ok (.iload_n 0, 1) := dq daX9_isSplit_0 (i := 0) rfl
theorem dX9_isSplit_1 : decode cX9_isSplit 1 = .ok (.i2l, 1) := dq daX9_isSplit_0 (i := 1) rfl
theorem dX9_isSplit_2 : decode cX9_isSplit 2 = .ok (.lconst 0, 1) := dq daX9_isSplit_0 (i := 2) rfl
theorem dX9_isSplit_3 : decode cX9_isSplit 3 = .ok (.iconst 1, 1) := dq daX9_isSplit_0 (i := 3) rfl
theorem dX9_isSplit_4 : decode cX9_isSplit 4 = .ok (.iload_n 1, 1) := dq daX9_isSplit_0 (i := 4) rfl
theorem dX9_isSplit_5 : decode cX9_isSplit 5 = .ok (.ishl, 1) := dq daX9_isSplit_0 (i := 5) rfl
theorem dX9_isSplit_6 : decode cX9_isSplit 6 = .ok (.iconst 1, 1) := dq daX9_isSplit_0 (i := 6) rfl
theorem dX9_isSplit_7 : decode cX9_isSplit 7 = .ok (.isub, 1) := dq daX9_isSplit_0 (i := 7) rfl
theorem dX9_isSplit_8 : decode cX9_isSplit 8 = .ok (.i2l, 1) := dq daX9_isSplit_0 (i := 8) rfl
theorem dX9_isSplit_9 : decode cX9_isSplit 9 = .ok (.invokestatic 110, 3) := dq daX9_isSplit_0 (i := 9) rfl
theorem dX9_isSplit_12 : decode cX9_isSplit 12 = .ok (.ifCond .eq 31, 3) := dq daX9_isSplit_0 (i := 10) rfl
theorem dX9_isSplit_15 : decode cX9_isSplit 15 = .ok (.iload_n 0, 1) := dq daX9_isSplit_0 (i := 11) rfl
theorem dX9_isSplit_16 : decode cX9_isSplit 16 = .ok (.iconst 1, 1) := dq daX9_isSplit_0 (i := 12) rfl
theorem dX9_isSplit_17 : decode cX9_isSplit 17 = .ok (.iand, 1) := dq daX9_isSplit_0 (i := 13) rfl
theorem dX9_isSplit_18 : decode cX9_isSplit 18 = .ok (.ifCond .ne 25, 3) := dq daX9_isSplit_0 (i := 14) rfl
theorem dX9_isSplit_21 : decode cX9_isSplit 21 = .ok (.iload_n 0, 1) := dq daX9_isSplit_0 (i := 15) rfl
theorem dX9_isSplit_22 : decode cX9_isSplit 22 = .ok (.invokestatic 206, 3) := dq daX9_isSplit_0 (i := 16) rfl
theorem dX9_isSplit_25 : decode cX9_isSplit 25 = .ok (.i2l, 1) := dq daX9_isSplit_0 (i := 17) rfl
theorem dX9_isSplit_26 : decode cX9_isSplit 26 = .ok (.ldc2_w 114, 3) := dq daX9_isSplit_0 (i := 18) rfl
theorem dX9_isSplit_29 : decode cX9_isSplit 29 = .ok (.iload_n 1, 1) := dq daX9_isSplit_0 (i := 19) rfl
theorem dX9_isSplit_30 : decode cX9_isSplit 30 = .ok (.iconst 2, 1) := dq daX9_isSplit_0 (i := 20) rfl
theorem dX9_isSplit_31 : decode cX9_isSplit 31 = .ok (.isub, 1) := dq daX9_isSplit_0 (i := 21) rfl
theorem dX9_isSplit_32 : decode cX9_isSplit 32 = .ok (.i2l, 1) := dq daX9_isSplit_0 (i := 22) rfl
theorem dX9_isSplit_33 : decode cX9_isSplit 33 = .ok (.invokestatic 110, 3) := dq daX9_isSplit_0 (i := 23) rfl
theorem dX9_isSplit_36 : decode cX9_isSplit 36 = .ok (.ifCond .eq 7, 3) := dq daX9_isSplit_0 (i := 24) rfl
theorem dX9_isSplit_39 : decode cX9_isSplit 39 = .ok (.iconst 1, 1) := dq daX9_isSplit_0 (i := 25) rfl
theorem dX9_isSplit_40 : decode cX9_isSplit 40 = .ok (.goto 4, 3) := dq daX9_isSplit_0 (i := 26) rfl
theorem dX9_isSplit_43 : decode cX9_isSplit 43 = .ok (.iconst 0, 1) := dq daX9_isSplit_0 (i := 27) rfl
theorem dX9_isSplit_44 : decode cX9_isSplit 44 = .ok (.ireturn, 1) := dq daX9_isSplit_0 (i := 28) rfl
theorem daX9_goTogether_0 : dchk cX9_goTogether [(0, .iload_n 0, 1), (1, .iload_n 1, 1), (2, .iand, 1), (3, .ifCond .eq 17, 3), (6, .iload_n 0, 1), (7, .iload_n 1, 1), (8, .iand, 1), (9, .iload_n 0, 1), (10, .if_icmp .eq 10, 3), (13, .iload_n 0, 1), (14, .iload_n 1, 1), (15, .iand, 1), (16, .iload_n 1, 1), (17, .if_icmp .ne 7, 3), (20, .iconst 1, 1), (21, .goto 4, 3), (24, .iconst 0, 1), (25, .ireturn, 1)] = true := by decide +kernel
theorem dX9_goTogether_0 : decode cX9_goTogether 0 = .ok (.iload_n 0, 1) := dq daX9_goTogether_0 (i := 0) rfl
theorem dX9_goTogether_1 : decode cX9_goTogether 1 = .ok (.iload_n 1, 1) := dq daX9_goTogether_0 (i := 1) rfl
theorem dX9_goTogether_2 : decode cX9_goTogether 2 = .ok (.iand, 1) := dq daX9_goTogether_0 (i := 2) rfl
theorem dX9_goTogether_3 : decode cX9_goTogether 3 = .ok (.ifCond .eq 17, 3) := dq daX9_goTogether_0 (i := 3) rfl
theorem dX9_goTogether_6 : decode cX9_goTogether 6 = .ok (.iload_n 0, 1) := dq daX9_goTogether_0 (i := 4) rfl
theorem dX9_goTogether_7 : decode cX9_goTogether 7 = .ok (.iload_n 1, 1) := dq daX9_goTogether_0 (i := 5) rfl
theorem dX9_goTogether_8 : decode cX9_goTogether 8 = .ok (.iand, 1) := dq daX9_goTogether_0 (i := 6) rfl
theorem dX9_goTogether_9 : decode cX9_goTogether 9 = .ok (.iload_n 0, 1) := dq daX9_goTogether_0 (i := 7) rfl
theorem dX9_goTogether_10 : decode cX9_goTogether 10 = .ok (.if_icmp .eq 10, 3) := dq daX9_goTogether_0 (i := 8) rfl
theorem dX9_goTogether_13 : decode cX9_goTogether 13 = .ok (.iload_n 0, 1) := dq daX9_goTogether_0 (i := 9) rfl
theorem dX9_goTogether_14 : decode cX9_goTogether 14 = .ok (.iload_n 1, 1) := dq daX9_goTogether_0 (i := 10) rfl
theorem dX9_goTogether_15 : decode cX9_goTogether 15 = .ok (.iand, 1) := dq daX9_goTogether_0 (i := 11) rfl
theorem dX9_goTogether_16 : decode cX9_goTogether 16 = .ok (.iload_n 1, 1) := dq daX9_goTogether_0 (i := 12) rfl
theorem dX9_goTogether_17 : decode cX9_goTogether 17 = .ok (.if_icmp .ne 7, 3) := dq daX9_goTogether_0 (i := 13) rfl
theorem dX9_goTogether_20 : decode cX9_goTogether 20 = .ok (.iconst 1, 1) := dq daX9_goTogether_0 (i := 14) rfl
theorem dX9_goTogether_21 : decode cX9_goTogether 21 = .ok (.goto 4, 3) := dq daX9_goTogether_0 (i := 15) rfl
theorem dX9_goTogether_24 : decode cX9_goTogether 24 = .ok (.iconst 0, 1) := dq daX9_goTogether_0 (i := 16) rfl
theorem dX9_goTogether_25 : decode cX9_goTogether 25 = .ok (.ireturn, 1) := dq daX9_goTogether_0 (i := 17) rfl
theorem daX9_placeOf_0 : dchk cX9_placeOf [(0, .iconst 0, 1), (1, .istore_n 2, 1), (2, .iload_n 2, 1), (3, .aload_n 0, 1), (4, .getfield 94, 3), (7, .if_icmp .ge 21, 3), (10, .aload_n 0, 1), (11, .getfield 19, 3), (14, .iload_n 2, 1), (15, .iaload, 1), (16, .iload_n 1, 1), (17, .if_icmp .ne 5, 3), (20, .iload_n 2, 1), (21, .ireturn, 1), (22, .iinc 2 1, 3), (25, .goto (-23), 3), (28, .bipush (-2), 2), (30, .ireturn, 1)] = true := by decide +kernel
theorem dX9_placeOf_0 : decode cX9_placeOf 0 = .ok (.iconst 0, 1) := dq daX9_placeOf_0 (i := 0) rfl
theorem dX9_placeOf_1 : decode cX9_placeOf 1 = .ok (.istore_n 2, 1) := dq daX9_placeOf_0 (i := 1) rfl
theorem dX9_placeOf_2 : decode cX9_placeOf 2 = .ok (.iload_n 2, 1) := dq daX9_placeOf_0 (i := 2) rfl
theorem dX9_placeOf_3 : decode cX9_placeOf 3 = .ok (.aload_n 0, 1) := dq daX9_placeOf_0 (i := 3) rfl
theorem dX9_placeOf_4 : decode cX9_placeOf 4 = .ok (.getfield 94, 3) := dq daX9_placeOf_0 (i := 4) rfl
theorem dX9_placeOf_7 : decode cX9_placeOf 7 = .ok (.if_icmp .ge 21, 3) := dq daX9_placeOf_0 (i := 5) rfl
theorem dX9_placeOf_10 : decode cX9_placeOf 10 = .ok (.aload_n 0, 1) := dq daX9_placeOf_0 (i := 6) rfl
theorem dX9_placeOf_11 : decode cX9_placeOf 11 = .ok (.getfield 19, 3) := dq daX9_placeOf_0 (i := 7) rfl
theorem dX9_placeOf_14 : decode cX9_placeOf 14 = .ok (.iload_n 2, 1) := dq daX9_placeOf_0 (i := 8) rfl
theorem dX9_placeOf_15 : decode cX9_placeOf 15 = .ok (.iaload, 1) := dq daX9_placeOf_0 (i := 9) rfl
theorem dX9_placeOf_16 : decode cX9_placeOf 16 = .ok (.iload_n 1, 1) := dq daX9_placeOf_0 (i := 10) rfl
theorem dX9_placeOf_17 : decode cX9_placeOf 17 = .ok (.if_icmp .ne 5, 3) := dq daX9_placeOf_0 (i := 11) rfl
theorem dX9_placeOf_20 : decode cX9_placeOf 20 = .ok (.iload_n 2, 1) := dq daX9_placeOf_0 (i := 12) rfl
theorem dX9_placeOf_21 : decode cX9_placeOf 21 = .ok (.ireturn, 1) := dq daX9_placeOf_0 (i := 13) rfl
theorem dX9_placeOf_22 : decode cX9_placeOf 22 = .ok (.iinc 2 1, 3) := dq daX9_placeOf_0 (i := 14) rfl
theorem dX9_placeOf_25 : decode cX9_placeOf 25 = .ok (.goto (-23), 3) := dq daX9_placeOf_0 (i := 15) rfl
theorem dX9_placeOf_28 : decode cX9_placeOf 28 = .ok (.bipush (-2), 2) := dq daX9_placeOf_0 (i := 16) rfl
theorem dX9_placeOf_30 : decode cX9_placeOf 30 = .ok (.ireturn, 1) := dq daX9_placeOf_0 (i := 17) rfl
theorem daX9_mayCome_0 : dchk cX9_mayCome [(0, .iconst 0, 1), (1, .istore_n 2, 1), (2, .iload_n 2, 1), (3, .aload_n 0, 1), (4, .getfield 94, 3), (7, .if_icmp .ge 34, 3), (10, .aload_n 0, 1), (11, .getfield 19, 3), (14, .iload_n 2, 1), (15, .iaload, 1), (16, .iload_n 1, 1), (17, .if_icmp .eq 16, 3), (20, .aload_n 0, 1), (21, .getfield 19, 3), (24, .iload_n 2, 1), (25, .iaload, 1), (26, .iload_n 1, 1), (27, .invokestatic 210, 3), (30, .ifCond .ne 5, 3), (33, .iconst 0, 1), (34, .ireturn, 1), (35, .iinc 2 1, 3), (38, .goto (-36), 3), (41, .iconst 1, 1), (42, .ireturn, 1)] = true := by decide +kernel
theorem dX9_mayCome_0 : decode cX9_mayCome 0 = .ok (.iconst 0, 1) := dq daX9_mayCome_0 (i := 0) rfl
theorem dX9_mayCome_1 : decode cX9_mayCome 1 = .ok (.istore_n 2, 1) := dq daX9_mayCome_0 (i := 1) rfl
theorem dX9_mayCome_2 : decode cX9_mayCome 2 = .ok (.iload_n 2, 1) := dq daX9_mayCome_0 (i := 2) rfl
theorem dX9_mayCome_3 : decode cX9_mayCome 3 = .ok (.aload_n 0, 1) := dq daX9_mayCome_0 (i := 3) rfl
theorem dX9_mayCome_4 : decode cX9_mayCome 4 = .ok (.getfield 94, 3) := dq daX9_mayCome_0 (i := 4) rfl
theorem dX9_mayCome_7 : decode cX9_mayCome 7 = .ok (.if_icmp .ge 34, 3) := dq daX9_mayCome_0 (i := 5) rfl
theorem dX9_mayCome_10 : decode cX9_mayCome 10 = .ok (.aload_n 0, 1) := dq daX9_mayCome_0 (i := 6) rfl
theorem dX9_mayCome_11 : decode cX9_mayCome 11 = .ok (.getfield 19, 3) := dq daX9_mayCome_0 (i := 7) rfl
theorem dX9_mayCome_14 : decode cX9_mayCome 14 = .ok (.iload_n 2, 1) := dq daX9_mayCome_0 (i := 8) rfl
theorem dX9_mayCome_15 : decode cX9_mayCome 15 = .ok (.iaload, 1) := dq daX9_mayCome_0 (i := 9) rfl
theorem dX9_mayCome_16 : decode cX9_mayCome 16 = .ok (.iload_n 1, 1) := dq daX9_mayCome_0 (i := 10) rfl
theorem dX9_mayCome_17 : decode cX9_mayCome 17 = .ok (.if_icmp .eq 16, 3) := dq daX9_mayCome_0 (i := 11) rfl
theorem dX9_mayCome_20 : decode cX9_mayCome 20 = .ok (.aload_n 0, 1) := dq daX9_mayCome_0 (i := 12) rfl
theorem dX9_mayCome_21 : decode cX9_mayCome 21 = .ok (.getfield 19, 3) := dq daX9_mayCome_0 (i := 13) rfl
theorem dX9_mayCome_24 : decode cX9_mayCome 24 = .ok (.iload_n 2, 1) := dq daX9_mayCome_0 (i := 14) rfl
theorem dX9_mayCome_25 : decode cX9_mayCome 25 = .ok (.iaload, 1) := dq daX9_mayCome_0 (i := 15) rfl
theorem dX9_mayCome_26 : decode cX9_mayCome 26 = .ok (.iload_n 1, 1) := dq daX9_mayCome_0 (i := 16) rfl
theorem dX9_mayCome_27 : decode cX9_mayCome 27 = .ok (.invokestatic 210, 3) := dq daX9_mayCome_0 (i := 17) rfl
theorem dX9_mayCome_30 : decode cX9_mayCome 30 = .ok (.ifCond .ne 5, 3) := dq daX9_mayCome_0 (i := 18) rfl
theorem dX9_mayCome_33 : decode cX9_mayCome 33 = .ok (.iconst 0, 1) := dq daX9_mayCome_0 (i := 19) rfl
theorem dX9_mayCome_34 : decode cX9_mayCome 34 = .ok (.ireturn, 1) := dq daX9_mayCome_0 (i := 20) rfl
theorem dX9_mayCome_35 : decode cX9_mayCome 35 = .ok (.iinc 2 1, 3) := dq daX9_mayCome_0 (i := 21) rfl
theorem dX9_mayCome_38 : decode cX9_mayCome 38 = .ok (.goto (-36), 3) := dq daX9_mayCome_0 (i := 22) rfl
theorem dX9_mayCome_41 : decode cX9_mayCome 41 = .ok (.iconst 1, 1) := dq daX9_mayCome_0 (i := 23) rfl
theorem dX9_mayCome_42 : decode cX9_mayCome 42 = .ok (.ireturn, 1) := dq daX9_mayCome_0 (i := 24) rfl
theorem daX9_leaves__0 : dchk cX9_leaves_ [(0, .iload_n 1, 1), (1, .i2l, 1), (2, .ldc2_w 128, 3), (5, .ldc2_w 214, 3), (8, .invokestatic 110, 3), (11, .ifCond .ne 5, 3), (14, .iconst (-1), 1), (15, .ireturn, 1), (16, .aload_n 0, 1), (17, .getfield 15, 3), (20, .istore_n 2, 1), (21, .aload_n 0, 1), (22, .invokevirtual 116, 3), (25, .aload_n 0, 1), (26, .iload_n 1, 1), (27, .putfield 15, 3), (30, .aload_n 0, 1), (31, .iconst 0, 1), (32, .putfield 94, 3), (35, .aload_n 0, 1), (36, .invokevirtual 119, 3), (39, .iload_n 2, 1), (40, .ireturn, 1)] = true := by decide +kernel
theorem dX9_leaves__0 : decode cX9_leaves_ 0 = .ok (.iload_n 1, 1) := dq daX9_leaves__0 (i := 0) rfl
theorem dX9_leaves__1 : decode cX9_leaves_ 1 = .ok (.i2l, 1) := dq daX9_leaves__0 (i := 1) rfl
theorem dX9_leaves__2 : decode cX9_leaves_ 2 = .ok (.ldc2_w 128, 3) := dq daX9_leaves__0 (i := 2) rfl
theorem dX9_leaves__5 : decode cX9_leaves_ 5 = .ok (.ldc2_w 214, 3) := dq daX9_leaves__0 (i := 3) rfl
theorem dX9_leaves__8 : decode cX9_leaves_ 8 = .ok (.invokestatic 110, 3) := dq daX9_leaves__0 (i := 4) rfl
theorem dX9_leaves__11 : decode cX9_leaves_ 11 = .ok (.ifCond .ne 5, 3) := dq daX9_leaves__0 (i := 5) rfl
theorem dX9_leaves__14 : decode cX9_leaves_ 14 = .ok (.iconst (-1), 1) := dq daX9_leaves__0 (i := 6) rfl
theorem dX9_leaves__15 : decode cX9_leaves_ 15 = .ok (.ireturn, 1) := dq daX9_leaves__0 (i := 7) rfl
theorem dX9_leaves__16 : decode cX9_leaves_ 16 = .ok (.aload_n 0, 1) := dq daX9_leaves__0 (i := 8) rfl
theorem dX9_leaves__17 : decode cX9_leaves_ 17 = .ok (.getfield 15, 3) := dq daX9_leaves__0 (i := 9) rfl
theorem dX9_leaves__20 : decode cX9_leaves_ 20 = .ok (.istore_n 2, 1) := dq daX9_leaves__0 (i := 10) rfl
theorem dX9_leaves__21 : decode cX9_leaves_ 21 = .ok (.aload_n 0, 1) := dq daX9_leaves__0 (i := 11) rfl
theorem dX9_leaves__22 : decode cX9_leaves_ 22 = .ok (.invokevirtual 116, 3) := dq daX9_leaves__0 (i := 12) rfl
theorem dX9_leaves__25 : decode cX9_leaves_ 25 = .ok (.aload_n 0, 1) := dq daX9_leaves__0 (i := 13) rfl
theorem dX9_leaves__26 : decode cX9_leaves_ 26 = .ok (.iload_n 1, 1) := dq daX9_leaves__0 (i := 14) rfl
theorem dX9_leaves__27 : decode cX9_leaves_ 27 = .ok (.putfield 15, 3) := dq daX9_leaves__0 (i := 15) rfl
theorem dX9_leaves__30 : decode cX9_leaves_ 30 = .ok (.aload_n 0, 1) := dq daX9_leaves__0 (i := 16) rfl
theorem dX9_leaves__31 : decode cX9_leaves_ 31 = .ok (.iconst 0, 1) := dq daX9_leaves__0 (i := 17) rfl
theorem dX9_leaves__32 : decode cX9_leaves_ 32 = .ok (.putfield 94, 3) := dq daX9_leaves__0 (i := 18) rfl
theorem dX9_leaves__35 : decode cX9_leaves_ 35 = .ok (.aload_n 0, 1) := dq daX9_leaves__0 (i := 19) rfl
theorem dX9_leaves__36 : decode cX9_leaves_ 36 = .ok (.invokevirtual 119, 3) := dq daX9_leaves__0 (i := 20) rfl
theorem dX9_leaves__39 : decode cX9_leaves_ 39 = .ok (.iload_n 2, 1) := dq daX9_leaves__0 (i := 21) rfl
theorem dX9_leaves__40 : decode cX9_leaves_ 40 = .ok (.ireturn, 1) := dq daX9_leaves__0 (i := 22) rfl
theorem daX9_comes_0 : dchk cX9_comes [(0, .aload_n 0, 1), (1, .getfield 19, 3), (4, .aload_n 0, 1), (5, .getfield 94, 3), (8, .iload_n 1, 1), (9, .iastore, 1), (10, .aload_n 0, 1), (11, .dup, 1), (12, .getfield 94, 3), (15, .iconst 1, 1), (16, .iadd, 1), (17, .putfield 94, 3), (20, .aload_n 0, 1), (21, .getfield 19, 3), (24, .aload_n 0, 1), (25, .getfield 94, 3), (28, .iconst 1, 1), (29, .invokestatic 130, 3), (32, .return_, 1)] = true := by decide +kernel
theorem dX9_comes_0 : decode cX9_comes 0 = .ok (.aload_n 0, 1) := dq daX9_comes_0 (i := 0) rfl
theorem dX9_comes_1 : decode cX9_comes 1 = .ok (.getfield 19, 3) := dq daX9_comes_0 (i := 1) rfl
theorem dX9_comes_4 : decode cX9_comes 4 = .ok (.aload_n 0, 1) := dq daX9_comes_0 (i := 2) rfl
theorem dX9_comes_5 : decode cX9_comes 5 = .ok (.getfield 94, 3) := dq daX9_comes_0 (i := 3) rfl
theorem dX9_comes_8 : decode cX9_comes 8 = .ok (.iload_n 1, 1) := dq daX9_comes_0 (i := 4) rfl
theorem dX9_comes_9 : decode cX9_comes 9 = .ok (.iastore, 1) := dq daX9_comes_0 (i := 5) rfl
theorem dX9_comes_10 : decode cX9_comes 10 = .ok (.aload_n 0, 1) := dq daX9_comes_0 (i := 6) rfl
theorem dX9_comes_11 : decode cX9_comes 11 = .ok (.dup, 1) := dq daX9_comes_0 (i := 7) rfl
theorem dX9_comes_12 : decode cX9_comes 12 = .ok (.getfield 94, 3) := dq daX9_comes_0 (i := 8) rfl
theorem dX9_comes_15 : decode cX9_comes 15 = .ok (.iconst 1, 1) := dq daX9_comes_0 (i := 9) rfl
theorem dX9_comes_16 : decode cX9_comes 16 = .ok (.iadd, 1) := dq daX9_comes_0 (i := 10) rfl
theorem dX9_comes_17 : decode cX9_comes 17 = .ok (.putfield 94, 3) := dq daX9_comes_0 (i := 11) rfl
theorem dX9_comes_20 : decode cX9_comes 20 = .ok (.aload_n 0, 1) := dq daX9_comes_0 (i := 12) rfl
theorem dX9_comes_21 : decode cX9_comes 21 = .ok (.getfield 19, 3) := dq daX9_comes_0 (i := 13) rfl
theorem dX9_comes_24 : decode cX9_comes 24 = .ok (.aload_n 0, 1) := dq daX9_comes_0 (i := 14) rfl
theorem dX9_comes_25 : decode cX9_comes 25 = .ok (.getfield 94, 3) := dq daX9_comes_0 (i := 15) rfl
theorem dX9_comes_28 : decode cX9_comes 28 = .ok (.iconst 1, 1) := dq daX9_comes_0 (i := 16) rfl
theorem dX9_comes_29 : decode cX9_comes 29 = .ok (.invokestatic 130, 3) := dq daX9_comes_0 (i := 17) rfl
theorem dX9_comes_32 : decode cX9_comes 32 = .ok (.return_, 1) := dq daX9_comes_0 (i := 18) rfl
theorem daX9_split_0 : dchk cX9_split [(0, .iload_n 1, 1), (1, .aload_n 0, 1), (2, .getfield 15, 3), (5, .invokestatic 216, 3), (8, .ifCond .ne 5, 3), (11, .iconst (-1), 1), (12, .ireturn, 1), (13, .aload_n 0, 1), (14, .iload_n 1, 1), (15, .invokevirtual 219, 3), (18, .ifCond .ne 6, 3), (21, .bipush (-5), 2), (23, .ireturn, 1), (24, .aload_n 0, 1), (25, .invokevirtual 116, 3), (28, .aload_n 0, 1), (29, .iload_n 1, 1), (30, .invokevirtual 222, 3), (33, .aload_n 0, 1), (34, .invokevirtual 119, 3), (37, .aload_n 0, 1), (38, .getfield 94, 3), (41, .ireturn, 1)] = true := by decide +kernel
theorem dX9_split_0 : decode cX9_split 0 = .ok (.iload_n 1, 1) := dq daX9_split_0 (i := 0) rfl
theorem dX9_split_1 : decode cX9_split 1 = .ok (.aload_n 0, 1) := dq daX9_split_0 (i := 1) rfl
theorem dX9_split_2 : decode cX9_split 2 = .ok (.getfield 15, 3) := dq daX9_split_0 (i := 2) rfl
theorem dX9_split_5 : decode cX9_split 5 = .ok (.invokestatic 216, 3) := dq daX9_split_0 (i := 3) rfl
theorem dX9_split_8 : decode cX9_split 8 = .ok (.ifCond .ne 5, 3) := dq daX9_split_0 (i := 4) rfl
theorem dX9_split_11 : decode cX9_split 11 = .ok (.iconst (-1), 1) := dq daX9_split_0 (i := 5) rfl
theorem dX9_split_12 : decode cX9_split 12 = .ok (.ireturn, 1) := dq daX9_split_0 (i := 6) rfl
theorem dX9_split_13 : decode cX9_split 13 = .ok (.aload_n 0, 1) := dq daX9_split_0 (i := 7) rfl
theorem dX9_split_14 : decode cX9_split 14 = .ok (.iload_n 1, 1) := dq daX9_split_0 (i := 8) rfl
theorem dX9_split_15 : decode cX9_split 15 = .ok (.invokevirtual 219, 3) := dq daX9_split_0 (i := 9) rfl
theorem dX9_split_18 : decode cX9_split 18 = .ok (.ifCond .ne 6, 3) := dq daX9_split_0 (i := 10) rfl
theorem dX9_split_21 : decode cX9_split 21 = .ok (.bipush (-5), 2) := dq daX9_split_0 (i := 11) rfl
theorem dX9_split_23 : decode cX9_split 23 = .ok (.ireturn, 1) := dq daX9_split_0 (i := 12) rfl
theorem dX9_split_24 : decode cX9_split 24 = .ok (.aload_n 0, 1) := dq daX9_split_0 (i := 13) rfl
theorem dX9_split_25 : decode cX9_split 25 = .ok (.invokevirtual 116, 3) := dq daX9_split_0 (i := 14) rfl
theorem dX9_split_28 : decode cX9_split 28 = .ok (.aload_n 0, 1) := dq daX9_split_0 (i := 15) rfl
theorem dX9_split_29 : decode cX9_split 29 = .ok (.iload_n 1, 1) := dq daX9_split_0 (i := 16) rfl
theorem dX9_split_30 : decode cX9_split 30 = .ok (.invokevirtual 222, 3) := dq daX9_split_0 (i := 17) rfl
theorem dX9_split_33 : decode cX9_split 33 = .ok (.aload_n 0, 1) := dq daX9_split_0 (i := 18) rfl
theorem dX9_split_34 : decode cX9_split 34 = .ok (.invokevirtual 119, 3) := dq daX9_split_0 (i := 19) rfl
theorem dX9_split_37 : decode cX9_split 37 = .ok (.aload_n 0, 1) := dq daX9_split_0 (i := 20) rfl
theorem dX9_split_38 : decode cX9_split 38 = .ok (.getfield 94, 3) := dq daX9_split_0 (i := 21) rfl
theorem dX9_split_41 : decode cX9_split 41 = .ok (.ireturn, 1) := dq daX9_split_0 (i := 22) rfl
theorem daX9_join_0 : dchk cX9_join [(0, .iload_n 1, 1), (1, .aload_n 0, 1), (2, .getfield 15, 3), (5, .invokestatic 216, 3), (8, .ifCond .ne 5, 3), (11, .iconst (-1), 1), (12, .ireturn, 1), (13, .aload_n 0, 1), (14, .iload_n 1, 1), (15, .invokevirtual 226, 3), (18, .istore_n 2, 1), (19, .iload_n 2, 1), (20, .ifCond .ge 6, 3), (23, .bipush (-5), 2), (25, .ireturn, 1), (26, .aload_n 0, 1), (27, .invokevirtual 116, 3), (30, .aload_n 0, 1), (31, .dup, 1), (32, .getfield 94, 3), (35, .iconst 1, 1), (36, .isub, 1), (37, .putfield 94, 3), (40, .iload_n 2, 1), (41, .istore_n 3, 1), (42, .iload_n 3, 1), (43, .aload_n 0, 1), (44, .getfield 94, 3), (47, .if_icmp .ge 23, 3), (50, .aload_n 0, 1), (51, .getfield 19, 3), (54, .iload_n 3, 1), (55, .aload_n 0, 1), (56, .getfield 19, 3), (59, .iload_n 3, 1), (60, .iconst 1, 1), (61, .iadd, 1), (62, .iaload, 1), (63, .iastore, 1), (64, .iinc 3 1, 3)] = true := by decide +kernel
theorem dX9_join_0 : decode cX9_join 0 = .ok (.iload_n 1, 1) := dq daX9_join_0 (i := 0) rfl
theorem dX9_join_1 : decode cX9_join 1 = .ok (.aload_n 0, 1) := dq daX9_join_0 (i := 1) rfl
theorem dX9_join_2 : decode cX9_join 2 = .ok (.getfield 15, 3) := dq daX9_join_0 (i := 2) rfl
theorem dX9_join_5 : decode cX9_join 5 = .ok (.invokestatic 216, 3) := dq daX9_join_0 (i := 3) rfl
theorem dX9_join_8 : decode cX9_join 8 = .ok (.ifCond .ne 5, 3) := dq daX9_join_0 (i := 4) rfl
theorem dX9_join_11 : decode cX9_join 11 = .ok (.iconst (-1), 1) := dq daX9_join_0 (i := 5) rfl
theorem dX9_join_12 : decode cX9_join 12 = .ok (.ireturn, 1) := dq daX9_join_0 (i := 6) rfl
theorem dX9_join_13 : decode cX9_join 13 = .ok (.aload_n 0, 1) := dq daX9_join_0 (i := 7) rfl
theorem dX9_join_14 : decode cX9_join 14 = .ok (.iload_n 1, 1) := dq daX9_join_0 (i := 8) rfl
theorem dX9_join_15 : decode cX9_join 15 = .ok (.invokevirtual 226, 3) := dq daX9_join_0 (i := 9) rfl
theorem dX9_join_18 : decode cX9_join 18 = .ok (.istore_n 2, 1) := dq daX9_join_0 (i := 10) rfl
theorem dX9_join_19 : decode cX9_join 19 = .ok (.iload_n 2, 1) := dq daX9_join_0 (i := 11) rfl
theorem dX9_join_20 : decode cX9_join 20 = .ok (.ifCond .ge 6, 3) := dq daX9_join_0 (i := 12) rfl
theorem dX9_join_23 : decode cX9_join 23 = .ok (.bipush (-5), 2) := dq daX9_join_0 (i := 13) rfl
theorem dX9_join_25 : decode cX9_join 25 = .ok (.ireturn, 1) := dq daX9_join_0 (i := 14) rfl
theorem dX9_join_26 : decode cX9_join 26 = .ok (.aload_n 0, 1) := dq daX9_join_0 (i := 15) rfl
theorem dX9_join_27 : decode cX9_join 27 = .ok (.invokevirtual 116, 3) := dq daX9_join_0 (i := 16) rfl
theorem dX9_join_30 : decode cX9_join 30 = .ok (.aload_n 0, 1) := dq daX9_join_0 (i := 17) rfl
theorem dX9_join_31 : decode cX9_join 31 = .ok (.dup, 1) := dq daX9_join_0 (i := 18) rfl
theorem dX9_join_32 : decode cX9_join 32 = .ok (.getfield 94, 3) := dq daX9_join_0 (i := 19) rfl
theorem dX9_join_35 : decode cX9_join 35 = .ok (.iconst 1, 1) := dq daX9_join_0 (i := 20) rfl
theorem dX9_join_36 : decode cX9_join 36 = .ok (.isub, 1) := dq daX9_join_0 (i := 21) rfl
theorem dX9_join_37 : decode cX9_join 37 = .ok (.putfield 94, 3) := dq daX9_join_0 (i := 22) rfl
theorem dX9_join_40 : decode cX9_join 40 = .ok (.iload_n 2, 1) := dq daX9_join_0 (i := 23) rfl
theorem dX9_join_41 : decode cX9_join 41 = .ok (.istore_n 3, 1) := dq daX9_join_0 (i := 24) rfl
theorem dX9_join_42 : decode cX9_join 42 = .ok (.iload_n 3, 1) := dq daX9_join_0 (i := 25) rfl
theorem dX9_join_43 : decode cX9_join 43 = .ok (.aload_n 0, 1) := dq daX9_join_0 (i := 26) rfl
theorem dX9_join_44 : decode cX9_join 44 = .ok (.getfield 94, 3) := dq daX9_join_0 (i := 27) rfl
theorem dX9_join_47 : decode cX9_join 47 = .ok (.if_icmp .ge 23, 3) := dq daX9_join_0 (i := 28) rfl
theorem dX9_join_50 : decode cX9_join 50 = .ok (.aload_n 0, 1) := dq daX9_join_0 (i := 29) rfl
theorem dX9_join_51 : decode cX9_join 51 = .ok (.getfield 19, 3) := dq daX9_join_0 (i := 30) rfl
theorem dX9_join_54 : decode cX9_join 54 = .ok (.iload_n 3, 1) := dq daX9_join_0 (i := 31) rfl
theorem dX9_join_55 : decode cX9_join 55 = .ok (.aload_n 0, 1) := dq daX9_join_0 (i := 32) rfl
theorem dX9_join_56 : decode cX9_join 56 = .ok (.getfield 19, 3) := dq daX9_join_0 (i := 33) rfl
theorem dX9_join_59 : decode cX9_join 59 = .ok (.iload_n 3, 1) := dq daX9_join_0 (i := 34) rfl
theorem dX9_join_60 : decode cX9_join 60 = .ok (.iconst 1, 1) := dq daX9_join_0 (i := 35) rfl
theorem dX9_join_61 : decode cX9_join 61 = .ok (.iadd, 1) := dq daX9_join_0 (i := 36) rfl
theorem dX9_join_62 : decode cX9_join 62 = .ok (.iaload, 1) := dq daX9_join_0 (i := 37) rfl
theorem dX9_join_63 : decode cX9_join 63 = .ok (.iastore, 1) := dq daX9_join_0 (i := 38) rfl
theorem dX9_join_64 : decode cX9_join 64 = .ok (.iinc 3 1, 3) := dq daX9_join_0 (i := 39) rfl
theorem daX9_join_40 : dchk cX9_join [(67, .goto (-25), 3), (70, .aload_n 0, 1), (71, .invokevirtual 119, 3), (74, .aload_n 0, 1), (75, .getfield 94, 3), (78, .ireturn, 1)] = true := by decide +kernel
theorem dX9_join_67 : decode cX9_join 67 = .ok (.goto (-25), 3) := dq daX9_join_40 (i := 0) rfl
theorem dX9_join_70 : decode cX9_join 70 = .ok (.aload_n 0, 1) := dq daX9_join_40 (i := 1) rfl
theorem dX9_join_71 : decode cX9_join 71 = .ok (.invokevirtual 119, 3) := dq daX9_join_40 (i := 2) rfl
theorem dX9_join_74 : decode cX9_join 74 = .ok (.aload_n 0, 1) := dq daX9_join_40 (i := 3) rfl
theorem dX9_join_75 : decode cX9_join 75 = .ok (.getfield 94, 3) := dq daX9_join_40 (i := 4) rfl
theorem dX9_join_78 : decode cX9_join 78 = .ok (.ireturn, 1) := dq daX9_join_40 (i := 5) rfl
theorem daX9_splitAt_0 : dchk cX9_splitAt [(0, .iload_n 1, 1), (1, .ifCond .ge 7, 3), (4, .iconst (-1), 1), (5, .goto 22, 3), (8, .iload_n 1, 1), (9, .aload_n 0, 1), (10, .getfield 94, 3), (13, .if_icmp .ge 12, 3), (16, .aload_n 0, 1), (17, .getfield 19, 3), (20, .iload_n 1, 1), (21, .iaload, 1), (22, .goto 5, 3), (25, .bipush (-2), 2), (27, .ireturn, 1)] = true := by decide +kernel
theorem dX9_splitAt_0 : decode cX9_splitAt 0 = .ok (.iload_n 1, 1) := dq daX9_splitAt_0 (i := 0) rfl
theorem dX9_splitAt_1 : decode cX9_splitAt 1 = .ok (.ifCond .ge 7, 3) := dq daX9_splitAt_0 (i := 1) rfl
theorem dX9_splitAt_4 : decode cX9_splitAt 4 = .ok (.iconst (-1), 1) := dq daX9_splitAt_0 (i := 2) rfl
theorem dX9_splitAt_5 : decode cX9_splitAt 5 = .ok (.goto 22, 3) := dq daX9_splitAt_0 (i := 3) rfl
theorem dX9_splitAt_8 : decode cX9_splitAt 8 = .ok (.iload_n 1, 1) := dq daX9_splitAt_0 (i := 4) rfl
theorem dX9_splitAt_9 : decode cX9_splitAt 9 = .ok (.aload_n 0, 1) := dq daX9_splitAt_0 (i := 5) rfl
theorem dX9_splitAt_10 : decode cX9_splitAt 10 = .ok (.getfield 94, 3) := dq daX9_splitAt_0 (i := 6) rfl
theorem dX9_splitAt_13 : decode cX9_splitAt 13 = .ok (.if_icmp .ge 12, 3) := dq daX9_splitAt_0 (i := 7) rfl
theorem dX9_splitAt_16 : decode cX9_splitAt 16 = .ok (.aload_n 0, 1) := dq daX9_splitAt_0 (i := 8) rfl
theorem dX9_splitAt_17 : decode cX9_splitAt 17 = .ok (.getfield 19, 3) := dq daX9_splitAt_0 (i := 9) rfl
theorem dX9_splitAt_20 : decode cX9_splitAt 20 = .ok (.iload_n 1, 1) := dq daX9_splitAt_0 (i := 10) rfl
theorem dX9_splitAt_21 : decode cX9_splitAt 21 = .ok (.iaload, 1) := dq daX9_splitAt_0 (i := 11) rfl
theorem dX9_splitAt_22 : decode cX9_splitAt 22 = .ok (.goto 5, 3) := dq daX9_splitAt_0 (i := 12) rfl
theorem dX9_splitAt_25 : decode cX9_splitAt 25 = .ok (.bipush (-2), 2) := dq daX9_splitAt_0 (i := 13) rfl
theorem dX9_splitAt_27 : decode cX9_splitAt 27 = .ok (.ireturn, 1) := dq daX9_splitAt_0 (i := 14) rfl
theorem daX9_may_0 : dchk cX9_may [(0, .iload_n 1, 1), (1, .aload_n 0, 1), (2, .getfield 15, 3), (5, .invokestatic 216, 3), (8, .ifCond .eq 19, 3), (11, .aload_n 0, 1), (12, .iload_n 1, 1), (13, .invokevirtual 219, 3), (16, .ifCond .eq 7, 3), (19, .iconst 1, 1), (20, .goto 8, 3), (23, .iconst 0, 1), (24, .goto 4, 3), (27, .iconst (-1), 1), (28, .ireturn, 1)] = true := by decide +kernel
theorem dX9_may_0 : decode cX9_may 0 = .ok (.iload_n 1, 1) := dq daX9_may_0 (i := 0) rfl
theorem dX9_may_1 : decode cX9_may 1 = .ok (.aload_n 0, 1) := dq daX9_may_0 (i := 1) rfl
theorem dX9_may_2 : decode cX9_may 2 = .ok (.getfield 15, 3) := dq daX9_may_0 (i := 2) rfl
theorem dX9_may_5 : decode cX9_may 5 = .ok (.invokestatic 216, 3) := dq daX9_may_0 (i := 3) rfl
theorem dX9_may_8 : decode cX9_may 8 = .ok (.ifCond .eq 19, 3) := dq daX9_may_0 (i := 4) rfl
theorem dX9_may_11 : decode cX9_may 11 = .ok (.aload_n 0, 1) := dq daX9_may_0 (i := 5) rfl
theorem dX9_may_12 : decode cX9_may 12 = .ok (.iload_n 1, 1) := dq daX9_may_0 (i := 6) rfl
theorem dX9_may_13 : decode cX9_may 13 = .ok (.invokevirtual 219, 3) := dq daX9_may_0 (i := 7) rfl
theorem dX9_may_16 : decode cX9_may 16 = .ok (.ifCond .eq 7, 3) := dq daX9_may_0 (i := 8) rfl
theorem dX9_may_19 : decode cX9_may 19 = .ok (.iconst 1, 1) := dq daX9_may_0 (i := 9) rfl
theorem dX9_may_20 : decode cX9_may 20 = .ok (.goto 8, 3) := dq daX9_may_0 (i := 10) rfl
theorem dX9_may_23 : decode cX9_may 23 = .ok (.iconst 0, 1) := dq daX9_may_0 (i := 11) rfl
theorem dX9_may_24 : decode cX9_may 24 = .ok (.goto 4, 3) := dq daX9_may_0 (i := 12) rfl
theorem dX9_may_27 : decode cX9_may 27 = .ok (.iconst (-1), 1) := dq daX9_may_0 (i := 13) rfl
theorem dX9_may_28 : decode cX9_may 28 = .ok (.ireturn, 1) := dq daX9_may_0 (i := 14) rfl
theorem daX9_isWithin_0 : dchk cX9_isWithin [(0, .iload_n 1, 1), (1, .iload_n 2, 1), (2, .if_icmp .eq 14, 3), (5, .iload_n 1, 1), (6, .iload_n 2, 1), (7, .iand, 1), (8, .iload_n 1, 1), (9, .if_icmp .ne 7, 3), (12, .iconst 1, 1), (13, .goto 4, 3), (16, .iconst 0, 1), (17, .ireturn, 1)] = true := by decide +kernel
theorem dX9_isWithin_0 : decode cX9_isWithin 0 = .ok (.iload_n 1, 1) := dq daX9_isWithin_0 (i := 0) rfl
theorem dX9_isWithin_1 : decode cX9_isWithin 1 = .ok (.iload_n 2, 1) := dq daX9_isWithin_0 (i := 1) rfl
theorem dX9_isWithin_2 : decode cX9_isWithin 2 = .ok (.if_icmp .eq 14, 3) := dq daX9_isWithin_0 (i := 2) rfl
theorem dX9_isWithin_5 : decode cX9_isWithin 5 = .ok (.iload_n 1, 1) := dq daX9_isWithin_0 (i := 3) rfl
theorem dX9_isWithin_6 : decode cX9_isWithin 6 = .ok (.iload_n 2, 1) := dq daX9_isWithin_0 (i := 4) rfl
theorem dX9_isWithin_7 : decode cX9_isWithin 7 = .ok (.iand, 1) := dq daX9_isWithin_0 (i := 5) rfl
theorem dX9_isWithin_8 : decode cX9_isWithin 8 = .ok (.iload_n 1, 1) := dq daX9_isWithin_0 (i := 6) rfl
theorem dX9_isWithin_9 : decode cX9_isWithin 9 = .ok (.if_icmp .ne 7, 3) := dq daX9_isWithin_0 (i := 7) rfl
theorem dX9_isWithin_12 : decode cX9_isWithin 12 = .ok (.iconst 1, 1) := dq daX9_isWithin_0 (i := 8) rfl
theorem dX9_isWithin_13 : decode cX9_isWithin 13 = .ok (.goto 4, 3) := dq daX9_isWithin_0 (i := 9) rfl
theorem dX9_isWithin_16 : decode cX9_isWithin 16 = .ok (.iconst 0, 1) := dq daX9_isWithin_0 (i := 10) rfl
theorem dX9_isWithin_17 : decode cX9_isWithin 17 = .ok (.ireturn, 1) := dq daX9_isWithin_0 (i := 11) rfl
theorem daX9_isBelow_0 : dchk cX9_isBelow [(0, .iload_n 2, 1), (1, .ifCond .eq 19, 3), (4, .aload_n 0, 1), (5, .aload_n 0, 1), (6, .getfield 19, 3), (9, .iload_n 1, 1), (10, .iaload, 1), (11, .iload_n 2, 1), (12, .invokevirtual 229, 3), (15, .ifCond .ne 5, 3), (18, .iconst 0, 1), (19, .ireturn, 1), (20, .iconst 0, 1), (21, .istore_n 3, 1), (22, .iload_n 3, 1), (23, .aload_n 0, 1), (24, .getfield 94, 3), (27, .if_icmp .ge 48, 3), (30, .aload_n 0, 1), (31, .aload_n 0, 1), (32, .getfield 19, 3), (35, .iload_n 1, 1), (36, .iaload, 1), (37, .aload_n 0, 1), (38, .getfield 19, 3), (41, .iload_n 3, 1), (42, .iaload, 1), (43, .invokevirtual 229, 3), (46, .ifCond .eq 23, 3), (49, .iload_n 2, 1), (50, .ifCond .eq 17, 3), (53, .aload_n 0, 1), (54, .aload_n 0, 1), (55, .getfield 19, 3), (58, .iload_n 3, 1), (59, .iaload, 1), (60, .iload_n 2, 1), (61, .invokevirtual 229, 3), (64, .ifCond .eq 5, 3), (67, .iconst 0, 1)] = true := by decide +kernel
theorem dX9_isBelow_0 : decode cX9_isBelow 0 = .ok (.iload_n 2, 1) := dq daX9_isBelow_0 (i := 0) rfl
theorem dX9_isBelow_1 : decode cX9_isBelow 1 = .ok (.ifCond .eq 19, 3) := dq daX9_isBelow_0 (i := 1) rfl
theorem dX9_isBelow_4 : decode cX9_isBelow 4 = .ok (.aload_n 0, 1) := dq daX9_isBelow_0 (i := 2) rfl
theorem dX9_isBelow_5 : decode cX9_isBelow 5 = .ok (.aload_n 0, 1) := dq daX9_isBelow_0 (i := 3) rfl
theorem dX9_isBelow_6 : decode cX9_isBelow 6 = .ok (.getfield 19, 3) := dq daX9_isBelow_0 (i := 4) rfl
theorem dX9_isBelow_9 : decode cX9_isBelow 9 = .ok (.iload_n 1, 1) := dq daX9_isBelow_0 (i := 5) rfl
theorem dX9_isBelow_10 : decode cX9_isBelow 10 = .ok (.iaload, 1) := dq daX9_isBelow_0 (i := 6) rfl
theorem dX9_isBelow_11 : decode cX9_isBelow 11 = .ok (.iload_n 2, 1) := dq daX9_isBelow_0 (i := 7) rfl
theorem dX9_isBelow_12 : decode cX9_isBelow 12 = .ok (.invokevirtual 229, 3) := dq daX9_isBelow_0 (i := 8) rfl
theorem dX9_isBelow_15 : decode cX9_isBelow 15 = .ok (.ifCond .ne 5, 3) := dq daX9_isBelow_0 (i := 9) rfl
theorem dX9_isBelow_18 : decode cX9_isBelow 18 = .ok (.iconst 0, 1) := dq daX9_isBelow_0 (i := 10) rfl
theorem dX9_isBelow_19 : decode cX9_isBelow 19 = .ok (.ireturn, 1) := dq daX9_isBelow_0 (i := 11) rfl
theorem dX9_isBelow_20 : decode cX9_isBelow 20 = .ok (.iconst 0, 1) := dq daX9_isBelow_0 (i := 12) rfl
theorem dX9_isBelow_21 : decode cX9_isBelow 21 = .ok (.istore_n 3, 1) := dq daX9_isBelow_0 (i := 13) rfl
theorem dX9_isBelow_22 : decode cX9_isBelow 22 = .ok (.iload_n 3, 1) := dq daX9_isBelow_0 (i := 14) rfl
theorem dX9_isBelow_23 : decode cX9_isBelow 23 = .ok (.aload_n 0, 1) := dq daX9_isBelow_0 (i := 15) rfl
theorem dX9_isBelow_24 : decode cX9_isBelow 24 = .ok (.getfield 94, 3) := dq daX9_isBelow_0 (i := 16) rfl
theorem dX9_isBelow_27 : decode cX9_isBelow 27 = .ok (.if_icmp .ge 48, 3) := dq daX9_isBelow_0 (i := 17) rfl
theorem dX9_isBelow_30 : decode cX9_isBelow 30 = .ok (.aload_n 0, 1) := dq daX9_isBelow_0 (i := 18) rfl
theorem dX9_isBelow_31 : decode cX9_isBelow 31 = .ok (.aload_n 0, 1) := dq daX9_isBelow_0 (i := 19) rfl
theorem dX9_isBelow_32 : decode cX9_isBelow 32 = .ok (.getfield 19, 3) := dq daX9_isBelow_0 (i := 20) rfl
theorem dX9_isBelow_35 : decode cX9_isBelow 35 = .ok (.iload_n 1, 1) := dq daX9_isBelow_0 (i := 21) rfl
theorem dX9_isBelow_36 : decode cX9_isBelow 36 = .ok (.iaload, 1) := dq daX9_isBelow_0 (i := 22) rfl
theorem dX9_isBelow_37 : decode cX9_isBelow 37 = .ok (.aload_n 0, 1) := dq daX9_isBelow_0 (i := 23) rfl
theorem dX9_isBelow_38 : decode cX9_isBelow 38 = .ok (.getfield 19, 3) := dq daX9_isBelow_0 (i := 24) rfl
theorem dX9_isBelow_41 : decode cX9_isBelow 41 = .ok (.iload_n 3, 1) := dq daX9_isBelow_0 (i := 25) rfl
theorem dX9_isBelow_42 : decode cX9_isBelow 42 = .ok (.iaload, 1) := dq daX9_isBelow_0 (i := 26) rfl
theorem dX9_isBelow_43 : decode cX9_isBelow 43 = .ok (.invokevirtual 229, 3) := dq daX9_isBelow_0 (i := 27) rfl
theorem dX9_isBelow_46 : decode cX9_isBelow 46 = .ok (.ifCond .eq 23, 3) := dq daX9_isBelow_0 (i := 28) rfl
theorem dX9_isBelow_49 : decode cX9_isBelow 49 = .ok (.iload_n 2, 1) := dq daX9_isBelow_0 (i := 29) rfl
theorem dX9_isBelow_50 : decode cX9_isBelow 50 = .ok (.ifCond .eq 17, 3) := dq daX9_isBelow_0 (i := 30) rfl
theorem dX9_isBelow_53 : decode cX9_isBelow 53 = .ok (.aload_n 0, 1) := dq daX9_isBelow_0 (i := 31) rfl
theorem dX9_isBelow_54 : decode cX9_isBelow 54 = .ok (.aload_n 0, 1) := dq daX9_isBelow_0 (i := 32) rfl
theorem dX9_isBelow_55 : decode cX9_isBelow 55 = .ok (.getfield 19, 3) := dq daX9_isBelow_0 (i := 33) rfl
theorem dX9_isBelow_58 : decode cX9_isBelow 58 = .ok (.iload_n 3, 1) := dq daX9_isBelow_0 (i := 34) rfl
theorem dX9_isBelow_59 : decode cX9_isBelow 59 = .ok (.iaload, 1) := dq daX9_isBelow_0 (i := 35) rfl
theorem dX9_isBelow_60 : decode cX9_isBelow 60 = .ok (.iload_n 2, 1) := dq daX9_isBelow_0 (i := 36) rfl
theorem dX9_isBelow_61 : decode cX9_isBelow 61 = .ok (.invokevirtual 229, 3) := dq daX9_isBelow_0 (i := 37) rfl
theorem dX9_isBelow_64 : decode cX9_isBelow 64 = .ok (.ifCond .eq 5, 3) := dq daX9_isBelow_0 (i := 38) rfl
theorem dX9_isBelow_67 : decode cX9_isBelow 67 = .ok (.iconst 0, 1) := dq daX9_isBelow_0 (i := 39) rfl
theorem daX9_isBelow_40 : dchk cX9_isBelow [(68, .ireturn, 1), (69, .iinc 3 1, 3), (72, .goto (-50), 3), (75, .iconst 1, 1), (76, .ireturn, 1)] = true := by decide +kernel
theorem dX9_isBelow_68 : decode cX9_isBelow 68 = .ok (.ireturn, 1) := dq daX9_isBelow_40 (i := 0) rfl
theorem dX9_isBelow_69 : decode cX9_isBelow 69 = .ok (.iinc 3 1, 3) := dq daX9_isBelow_40 (i := 1) rfl
theorem dX9_isBelow_72 : decode cX9_isBelow 72 = .ok (.goto (-50), 3) := dq daX9_isBelow_40 (i := 2) rfl
theorem dX9_isBelow_75 : decode cX9_isBelow 75 = .ok (.iconst 1, 1) := dq daX9_isBelow_40 (i := 3) rfl
theorem dX9_isBelow_76 : decode cX9_isBelow 76 = .ok (.ireturn, 1) := dq daX9_isBelow_40 (i := 4) rfl
theorem daX9_edges_0 : dchk cX9_edges [(0, .iload_n 1, 1), (1, .ifCond .ne 7, 3), (4, .iconst 0, 1), (5, .goto 4, 3), (8, .iconst 1, 1), (9, .istore_n 2, 1), (10, .iconst 0, 1), (11, .istore_n 3, 1), (12, .iload_n 3, 1), (13, .aload_n 0, 1), (14, .getfield 94, 3), (17, .if_icmp .ge 18, 3), (20, .iload_n 2, 1), (21, .aload_n 0, 1), (22, .iload_n 3, 1), (23, .iload_n 1, 1), (24, .invokevirtual 232, 3), (27, .iadd, 1), (28, .istore_n 2, 1), (29, .iinc 3 1, 3), (32, .goto (-20), 3), (35, .iload_n 2, 1), (36, .ireturn, 1)] = true := by decide +kernel
theorem dX9_edges_0 : decode cX9_edges 0 = .ok (.iload_n 1, 1) := dq daX9_edges_0 (i := 0) rfl
theorem dX9_edges_1 : decode cX9_edges 1 = .ok (.ifCond .ne 7, 3) := dq daX9_edges_0 (i := 1) rfl
theorem dX9_edges_4 : decode cX9_edges 4 = .ok (.iconst 0, 1) := dq daX9_edges_0 (i := 2) rfl
theorem dX9_edges_5 : decode cX9_edges 5 = .ok (.goto 4, 3) := dq daX9_edges_0 (i := 3) rfl
theorem dX9_edges_8 : decode cX9_edges 8 = .ok (.iconst 1, 1) := dq daX9_edges_0 (i := 4) rfl
theorem dX9_edges_9 : decode cX9_edges 9 = .ok (.istore_n 2, 1) := dq daX9_edges_0 (i := 5) rfl
theorem dX9_edges_10 : decode cX9_edges 10 = .ok (.iconst 0, 1) := dq daX9_edges_0 (i := 6) rfl
theorem dX9_edges_11 : decode cX9_edges 11 = .ok (.istore_n 3, 1) := dq daX9_edges_0 (i := 7) rfl
theorem dX9_edges_12 : decode cX9_edges 12 = .ok (.iload_n 3, 1) := dq daX9_edges_0 (i := 8) rfl
theorem dX9_edges_13 : decode cX9_edges 13 = .ok (.aload_n 0, 1) := dq daX9_edges_0 (i := 9) rfl
theorem dX9_edges_14 : decode cX9_edges 14 = .ok (.getfield 94, 3) := dq daX9_edges_0 (i := 10) rfl
theorem dX9_edges_17 : decode cX9_edges 17 = .ok (.if_icmp .ge 18, 3) := dq daX9_edges_0 (i := 11) rfl
theorem dX9_edges_20 : decode cX9_edges 20 = .ok (.iload_n 2, 1) := dq daX9_edges_0 (i := 12) rfl
theorem dX9_edges_21 : decode cX9_edges 21 = .ok (.aload_n 0, 1) := dq daX9_edges_0 (i := 13) rfl
theorem dX9_edges_22 : decode cX9_edges 22 = .ok (.iload_n 3, 1) := dq daX9_edges_0 (i := 14) rfl
theorem dX9_edges_23 : decode cX9_edges 23 = .ok (.iload_n 1, 1) := dq daX9_edges_0 (i := 15) rfl
theorem dX9_edges_24 : decode cX9_edges 24 = .ok (.invokevirtual 232, 3) := dq daX9_edges_0 (i := 16) rfl
theorem dX9_edges_27 : decode cX9_edges 27 = .ok (.iadd, 1) := dq daX9_edges_0 (i := 17) rfl
theorem dX9_edges_28 : decode cX9_edges 28 = .ok (.istore_n 2, 1) := dq daX9_edges_0 (i := 18) rfl
theorem dX9_edges_29 : decode cX9_edges 29 = .ok (.iinc 3 1, 3) := dq daX9_edges_0 (i := 19) rfl
theorem dX9_edges_32 : decode cX9_edges 32 = .ok (.goto (-20), 3) := dq daX9_edges_0 (i := 20) rfl
theorem dX9_edges_35 : decode cX9_edges 35 = .ok (.iload_n 2, 1) := dq daX9_edges_0 (i := 21) rfl
theorem dX9_edges_36 : decode cX9_edges 36 = .ok (.ireturn, 1) := dq daX9_edges_0 (i := 22) rfl
theorem daX9_at_0 : dchk cX9_at [(0, .iload_n 1, 1), (1, .ifCond .ne 14, 3), (4, .iconst 1, 1), (5, .aload_n 0, 1), (6, .getfield 15, 3), (9, .ishl, 1), (10, .iconst 1, 1), (11, .isub, 1), (12, .goto 4, 3), (15, .iload_n 1, 1), (16, .istore_n 2, 1), (17, .iconst 0, 1), (18, .istore_n 3, 1), (19, .iload_n 3, 1), (20, .aload_n 0, 1), (21, .getfield 94, 3), (24, .if_icmp .ge 34, 3), (27, .iload_n 2, 1), (28, .aload_n 0, 1), (29, .iload_n 3, 1), (30, .iload_n 1, 1), (31, .invokevirtual 232, 3), (34, .iconst 1, 1), (35, .if_icmp .ne 14, 3), (38, .aload_n 0, 1), (39, .getfield 19, 3), (42, .iload_n 3, 1), (43, .iaload, 1), (44, .iconst (-1), 1), (45, .ixor, 1), (46, .goto 4, 3), (49, .iconst (-1), 1), (50, .iand, 1), (51, .istore_n 2, 1), (52, .iinc 3 1, 3), (55, .goto (-36), 3), (58, .iload_n 2, 1), (59, .ireturn, 1)] = true := by decide +kernel
theorem dX9_at_0 : decode cX9_at 0 = .ok (.iload_n 1, 1) := dq daX9_at_0 (i := 0) rfl
theorem dX9_at_1 : decode cX9_at 1 = .ok (.ifCond .ne 14, 3) := dq daX9_at_0 (i := 1) rfl
theorem dX9_at_4 : decode cX9_at 4 = .ok (.iconst 1, 1) := dq daX9_at_0 (i := 2) rfl
theorem dX9_at_5 : decode cX9_at 5 = .ok (.aload_n 0, 1) := dq daX9_at_0 (i := 3) rfl
theorem dX9_at_6 : decode cX9_at 6 = .ok (.getfield 15, 3) := dq daX9_at_0 (i := 4) rfl
theorem dX9_at_9 : decode cX9_at 9 = .ok (.ishl, 1) := dq daX9_at_0 (i := 5) rfl
theorem dX9_at_10 : decode cX9_at 10 = .ok (.iconst 1, 1) := dq daX9_at_0 (i := 6) rfl
theorem dX9_at_11 : decode cX9_at 11 = .ok (.isub, 1) := dq daX9_at_0 (i := 7) rfl
theorem dX9_at_12 : decode cX9_at 12 = .ok (.goto 4, 3) := dq daX9_at_0 (i := 8) rfl
theorem dX9_at_15 : decode cX9_at 15 = .ok (.iload_n 1, 1) := dq daX9_at_0 (i := 9) rfl
theorem dX9_at_16 : decode cX9_at 16 = .ok (.istore_n 2, 1) := dq daX9_at_0 (i := 10) rfl
theorem dX9_at_17 : decode cX9_at 17 = .ok (.iconst 0, 1) := dq daX9_at_0 (i := 11) rfl
theorem dX9_at_18 : decode cX9_at 18 = .ok (.istore_n 3, 1) := dq daX9_at_0 (i := 12) rfl
theorem dX9_at_19 : decode cX9_at 19 = .ok (.iload_n 3, 1) := dq daX9_at_0 (i := 13) rfl
theorem dX9_at_20 : decode cX9_at 20 = .ok (.aload_n 0, 1) := dq daX9_at_0 (i := 14) rfl
theorem dX9_at_21 : decode cX9_at 21 = .ok (.getfield 94, 3) := dq daX9_at_0 (i := 15) rfl
theorem dX9_at_24 : decode cX9_at 24 = .ok (.if_icmp .ge 34, 3) := dq daX9_at_0 (i := 16) rfl
theorem dX9_at_27 : decode cX9_at 27 = .ok (.iload_n 2, 1) := dq daX9_at_0 (i := 17) rfl
theorem dX9_at_28 : decode cX9_at 28 = .ok (.aload_n 0, 1) := dq daX9_at_0 (i := 18) rfl
theorem dX9_at_29 : decode cX9_at 29 = .ok (.iload_n 3, 1) := dq daX9_at_0 (i := 19) rfl
theorem dX9_at_30 : decode cX9_at 30 = .ok (.iload_n 1, 1) := dq daX9_at_0 (i := 20) rfl
theorem dX9_at_31 : decode cX9_at 31 = .ok (.invokevirtual 232, 3) := dq daX9_at_0 (i := 21) rfl
theorem dX9_at_34 : decode cX9_at 34 = .ok (.iconst 1, 1) := dq daX9_at_0 (i := 22) rfl
theorem dX9_at_35 : decode cX9_at 35 = .ok (.if_icmp .ne 14, 3) := dq daX9_at_0 (i := 23) rfl
theorem dX9_at_38 : decode cX9_at 38 = .ok (.aload_n 0, 1) := dq daX9_at_0 (i := 24) rfl
theorem dX9_at_39 : decode cX9_at 39 = .ok (.getfield 19, 3) := dq daX9_at_0 (i := 25) rfl
theorem dX9_at_42 : decode cX9_at 42 = .ok (.iload_n 3, 1) := dq daX9_at_0 (i := 26) rfl
theorem dX9_at_43 : decode cX9_at 43 = .ok (.iaload, 1) := dq daX9_at_0 (i := 27) rfl
theorem dX9_at_44 : decode cX9_at 44 = .ok (.iconst (-1), 1) := dq daX9_at_0 (i := 28) rfl
theorem dX9_at_45 : decode cX9_at 45 = .ok (.ixor, 1) := dq daX9_at_0 (i := 29) rfl
theorem dX9_at_46 : decode cX9_at 46 = .ok (.goto 4, 3) := dq daX9_at_0 (i := 30) rfl
theorem dX9_at_49 : decode cX9_at 49 = .ok (.iconst (-1), 1) := dq daX9_at_0 (i := 31) rfl
theorem dX9_at_50 : decode cX9_at 50 = .ok (.iand, 1) := dq daX9_at_0 (i := 32) rfl
theorem dX9_at_51 : decode cX9_at 51 = .ok (.istore_n 2, 1) := dq daX9_at_0 (i := 33) rfl
theorem dX9_at_52 : decode cX9_at 52 = .ok (.iinc 3 1, 3) := dq daX9_at_0 (i := 34) rfl
theorem dX9_at_55 : decode cX9_at 55 = .ok (.goto (-36), 3) := dq daX9_at_0 (i := 35) rfl
theorem dX9_at_58 : decode cX9_at 58 = .ok (.iload_n 2, 1) := dq daX9_at_0 (i := 36) rfl
theorem dX9_at_59 : decode cX9_at 59 = .ok (.ireturn, 1) := dq daX9_at_0 (i := 37) rfl
theorem daX9_valence_0 : dchk cX9_valence [(0, .iload_n 1, 1), (1, .ifCond .eq 16, 3), (4, .iload_n 1, 1), (5, .aload_n 0, 1), (6, .getfield 15, 3), (9, .invokestatic 216, 3), (12, .ifCond .ne 5, 3), (15, .iconst (-1), 1), (16, .ireturn, 1), (17, .iload_n 1, 1), (18, .ifCond .eq 14, 3), (21, .aload_n 0, 1), (22, .iload_n 1, 1), (23, .invokevirtual 226, 3), (26, .ifCond .ge 6, 3), (29, .bipush (-5), 2), (31, .ireturn, 1), (32, .aload_n 0, 1), (33, .iload_n 1, 1), (34, .invokevirtual 236, 3), (37, .invokestatic 206, 3), (40, .aload_n 0, 1), (41, .iload_n 1, 1), (42, .invokevirtual 239, 3), (45, .iadd, 1), (46, .ireturn, 1)] = true := by decide +kernel
theorem dX9_valence_0 : decode cX9_valence 0 = .ok (.iload_n 1, 1) := dq daX9_valence_0 (i := 0) rfl
theorem dX9_valence_1 : decode cX9_valence 1 = .ok (.ifCond .eq 16, 3) := dq daX9_valence_0 (i := 1) rfl
theorem dX9_valence_4 : decode cX9_valence 4 = .ok (.iload_n 1, 1) := dq daX9_valence_0 (i := 2) rfl
theorem dX9_valence_5 : decode cX9_valence 5 = .ok (.aload_n 0, 1) := dq daX9_valence_0 (i := 3) rfl
theorem dX9_valence_6 : decode cX9_valence 6 = .ok (.getfield 15, 3) := dq daX9_valence_0 (i := 4) rfl
theorem dX9_valence_9 : decode cX9_valence 9 = .ok (.invokestatic 216, 3) := dq daX9_valence_0 (i := 5) rfl
theorem dX9_valence_12 : decode cX9_valence 12 = .ok (.ifCond .ne 5, 3) := dq daX9_valence_0 (i := 6) rfl
theorem dX9_valence_15 : decode cX9_valence 15 = .ok (.iconst (-1), 1) := dq daX9_valence_0 (i := 7) rfl
theorem dX9_valence_16 : decode cX9_valence 16 = .ok (.ireturn, 1) := dq daX9_valence_0 (i := 8) rfl
theorem dX9_valence_17 : decode cX9_valence 17 = .ok (.iload_n 1, 1) := dq daX9_valence_0 (i := 9) rfl
theorem dX9_valence_18 : decode cX9_valence 18 = .ok (.ifCond .eq 14, 3) := dq daX9_valence_0 (i := 10) rfl
theorem dX9_valence_21 : decode cX9_valence 21 = .ok (.aload_n 0, 1) := dq daX9_valence_0 (i := 11) rfl
theorem dX9_valence_22 : decode cX9_valence 22 = .ok (.iload_n 1, 1) := dq daX9_valence_0 (i := 12) rfl
theorem dX9_valence_23 : decode cX9_valence 23 = .ok (.invokevirtual 226, 3) := dq daX9_valence_0 (i := 13) rfl
theorem dX9_valence_26 : decode cX9_valence 26 = .ok (.ifCond .ge 6, 3) := dq daX9_valence_0 (i := 14) rfl
theorem dX9_valence_29 : decode cX9_valence 29 = .ok (.bipush (-5), 2) := dq daX9_valence_0 (i := 15) rfl
theorem dX9_valence_31 : decode cX9_valence 31 = .ok (.ireturn, 1) := dq daX9_valence_0 (i := 16) rfl
theorem dX9_valence_32 : decode cX9_valence 32 = .ok (.aload_n 0, 1) := dq daX9_valence_0 (i := 17) rfl
theorem dX9_valence_33 : decode cX9_valence 33 = .ok (.iload_n 1, 1) := dq daX9_valence_0 (i := 18) rfl
theorem dX9_valence_34 : decode cX9_valence 34 = .ok (.invokevirtual 236, 3) := dq daX9_valence_0 (i := 19) rfl
theorem dX9_valence_37 : decode cX9_valence 37 = .ok (.invokestatic 206, 3) := dq daX9_valence_0 (i := 20) rfl
theorem dX9_valence_40 : decode cX9_valence 40 = .ok (.aload_n 0, 1) := dq daX9_valence_0 (i := 21) rfl
theorem dX9_valence_41 : decode cX9_valence 41 = .ok (.iload_n 1, 1) := dq daX9_valence_0 (i := 22) rfl
theorem dX9_valence_42 : decode cX9_valence 42 = .ok (.invokevirtual 239, 3) := dq daX9_valence_0 (i := 23) rfl
theorem dX9_valence_45 : decode cX9_valence 45 = .ok (.iadd, 1) := dq daX9_valence_0 (i := 24) rfl
theorem dX9_valence_46 : decode cX9_valence 46 = .ok (.ireturn, 1) := dq daX9_valence_0 (i := 25) rfl
theorem daX9_finds_0 : dchk cX9_finds [(0, .iload_n 3, 1), (1, .iload 4, 2), (3, .if_icmp .ne 30, 3), (6, .aload_n 0, 1), (7, .dup, 1), (8, .getfield 242, 3), (11, .iconst 1, 1), (12, .iadd, 1), (13, .putfield 242, 3), (16, .aload_n 0, 1), (17, .getfield 242, 3), (20, .iconst 1, 1), (21, .isub, 1), (22, .iload 5, 2), (24, .if_icmp .ne 7, 3), (27, .iconst 1, 1), (28, .goto 4, 3), (31, .iconst 0, 1), (32, .ireturn, 1), (33, .iload_n 2, 1), (34, .istore 6, 2), (36, .iload 6, 2), (38, .iconst 1, 1), (39, .iload_n 1, 1), (40, .ishl, 1), (41, .if_icmp .ge 103, 3), (44, .iload 6, 2), (46, .iload_n 1, 1), (47, .invokestatic 216, 3), (50, .ifCond .ne 6, 3), (53, .goto 85, 3), (56, .iconst 1, 1), (57, .istore 7, 2), (59, .iconst 0, 1), (60, .istore 8, 2), (62, .iload 8, 2), (64, .iload_n 3, 1), (65, .if_icmp .ge 36, 3), (68, .iload 7, 2), (70, .ifCond .eq 22, 3)] = true := by decide +kernel
theorem dX9_finds_0 : decode cX9_finds 0 = .ok (.iload_n 3, 1) := dq daX9_finds_0 (i := 0) rfl
theorem dX9_finds_1 : decode cX9_finds 1 = .ok (.iload 4, 2) := dq daX9_finds_0 (i := 1) rfl
theorem dX9_finds_3 : decode cX9_finds 3 = .ok (.if_icmp .ne 30, 3) := dq daX9_finds_0 (i := 2) rfl
theorem dX9_finds_6 : decode cX9_finds 6 = .ok (.aload_n 0, 1) := dq daX9_finds_0 (i := 3) rfl
theorem dX9_finds_7 : decode cX9_finds 7 = .ok (.dup, 1) := dq daX9_finds_0 (i := 4) rfl
theorem dX9_finds_8 : decode cX9_finds 8 = .ok (.getfield 242, 3) := dq daX9_finds_0 (i := 5) rfl
theorem dX9_finds_11 : decode cX9_finds 11 = .ok (.iconst 1, 1) := dq daX9_finds_0 (i := 6) rfl
theorem dX9_finds_12 : decode cX9_finds 12 = .ok (.iadd, 1) := dq daX9_finds_0 (i := 7) rfl
theorem dX9_finds_13 : decode cX9_finds 13 = .ok (.putfield 242, 3) := dq daX9_finds_0 (i := 8) rfl
theorem dX9_finds_16 : decode cX9_finds 16 = .ok (.aload_n 0, 1) := dq daX9_finds_0 (i := 9) rfl
theorem dX9_finds_17 : decode cX9_finds 17 = .ok (.getfield 242, 3) := dq daX9_finds_0 (i := 10) rfl
theorem dX9_finds_20 : decode cX9_finds 20 = .ok (.iconst 1, 1) := dq daX9_finds_0 (i := 11) rfl
theorem dX9_finds_21 : decode cX9_finds 21 = .ok (.isub, 1) := dq daX9_finds_0 (i := 12) rfl
theorem dX9_finds_22 : decode cX9_finds 22 = .ok (.iload 5, 2) := dq daX9_finds_0 (i := 13) rfl
theorem dX9_finds_24 : decode cX9_finds 24 = .ok (.if_icmp .ne 7, 3) := dq daX9_finds_0 (i := 14) rfl
theorem dX9_finds_27 : decode cX9_finds 27 = .ok (.iconst 1, 1) := dq daX9_finds_0 (i := 15) rfl
theorem dX9_finds_28 : decode cX9_finds 28 = .ok (.goto 4, 3) := dq daX9_finds_0 (i := 16) rfl
theorem dX9_finds_31 : decode cX9_finds 31 = .ok (.iconst 0, 1) := dq daX9_finds_0 (i := 17) rfl
theorem dX9_finds_32 : decode cX9_finds 32 = .ok (.ireturn, 1) := dq daX9_finds_0 (i := 18) rfl
theorem dX9_finds_33 : decode cX9_finds 33 = .ok (.iload_n 2, 1) := dq daX9_finds_0 (i := 19) rfl
theorem dX9_finds_34 : decode cX9_finds 34 = .ok (.istore 6, 2) := dq daX9_finds_0 (i := 20) rfl
theorem dX9_finds_36 : decode cX9_finds 36 = .ok (.iload 6, 2) := dq daX9_finds_0 (i := 21) rfl
theorem dX9_finds_38 : decode cX9_finds 38 = .ok (.iconst 1, 1) := dq daX9_finds_0 (i := 22) rfl
theorem dX9_finds_39 : decode cX9_finds 39 = .ok (.iload_n 1, 1) := dq daX9_finds_0 (i := 23) rfl
theorem dX9_finds_40 : decode cX9_finds 40 = .ok (.ishl, 1) := dq daX9_finds_0 (i := 24) rfl
theorem dX9_finds_41 : decode cX9_finds 41 = .ok (.if_icmp .ge 103, 3) := dq daX9_finds_0 (i := 25) rfl
theorem dX9_finds_44 : decode cX9_finds 44 = .ok (.iload 6, 2) := dq daX9_finds_0 (i := 26) rfl
theorem dX9_finds_46 : decode cX9_finds 46 = .ok (.iload_n 1, 1) := dq daX9_finds_0 (i := 27) rfl
theorem dX9_finds_47 : decode cX9_finds 47 = .ok (.invokestatic 216, 3) := dq daX9_finds_0 (i := 28) rfl
theorem dX9_finds_50 : decode cX9_finds 50 = .ok (.ifCond .ne 6, 3) := dq daX9_finds_0 (i := 29) rfl
theorem dX9_finds_53 : decode cX9_finds 53 = .ok (.goto 85, 3) := dq daX9_finds_0 (i := 30) rfl
theorem dX9_finds_56 : decode cX9_finds 56 = .ok (.iconst 1, 1) := dq daX9_finds_0 (i := 31) rfl
theorem dX9_finds_57 : decode cX9_finds 57 = .ok (.istore 7, 2) := dq daX9_finds_0 (i := 32) rfl
theorem dX9_finds_59 : decode cX9_finds 59 = .ok (.iconst 0, 1) := dq daX9_finds_0 (i := 33) rfl
theorem dX9_finds_60 : decode cX9_finds 60 = .ok (.istore 8, 2) := dq daX9_finds_0 (i := 34) rfl
theorem dX9_finds_62 : decode cX9_finds 62 = .ok (.iload 8, 2) := dq daX9_finds_0 (i := 35) rfl
theorem dX9_finds_64 : decode cX9_finds 64 = .ok (.iload_n 3, 1) := dq daX9_finds_0 (i := 36) rfl
theorem dX9_finds_65 : decode cX9_finds 65 = .ok (.if_icmp .ge 36, 3) := dq daX9_finds_0 (i := 37) rfl
theorem dX9_finds_68 : decode cX9_finds 68 = .ok (.iload 7, 2) := dq daX9_finds_0 (i := 38) rfl
theorem dX9_finds_70 : decode cX9_finds 70 = .ok (.ifCond .eq 22, 3) := dq daX9_finds_0 (i := 39) rfl
theorem daX9_finds_40 : dchk cX9_finds [(73, .aload_n 0, 1), (74, .getfield 41, 3), (77, .iload 8, 2), (79, .iaload, 1), (80, .iload 6, 2), (82, .invokestatic 210, 3), (85, .ifCond .eq 7, 3), (88, .iconst 1, 1), (89, .goto 4, 3), (92, .iconst 0, 1), (93, .istore 7, 2), (95, .iinc 8 1, 3), (98, .goto (-36), 3), (101, .iload 7, 2), (103, .ifCond .ne 6, 3), (106, .goto 32, 3), (109, .aload_n 0, 1), (110, .getfield 41, 3), (113, .iload_n 3, 1), (114, .iload 6, 2), (116, .iastore, 1), (117, .aload_n 0, 1), (118, .iload_n 1, 1), (119, .iload 6, 2), (121, .iconst 1, 1), (122, .iadd, 1), (123, .iload_n 3, 1), (124, .iconst 1, 1), (125, .iadd, 1), (126, .iload 4, 2), (128, .iload 5, 2), (130, .invokevirtual 245, 3), (133, .ifCond .eq 5, 3), (136, .iconst 1, 1), (137, .ireturn, 1), (138, .iinc 6 1, 3), (141, .goto (-105), 3), (144, .iconst 0, 1), (145, .ireturn, 1)] = true := by decide +kernel
theorem dX9_finds_73 : decode cX9_finds 73 = .ok (.aload_n 0, 1) := dq daX9_finds_40 (i := 0) rfl
theorem dX9_finds_74 : decode cX9_finds 74 = .ok (.getfield 41, 3) := dq daX9_finds_40 (i := 1) rfl
theorem dX9_finds_77 : decode cX9_finds 77 = .ok (.iload 8, 2) := dq daX9_finds_40 (i := 2) rfl
theorem dX9_finds_79 : decode cX9_finds 79 = .ok (.iaload, 1) := dq daX9_finds_40 (i := 3) rfl
theorem dX9_finds_80 : decode cX9_finds 80 = .ok (.iload 6, 2) := dq daX9_finds_40 (i := 4) rfl
theorem dX9_finds_82 : decode cX9_finds 82 = .ok (.invokestatic 210, 3) := dq daX9_finds_40 (i := 5) rfl
theorem dX9_finds_85 : decode cX9_finds 85 = .ok (.ifCond .eq 7, 3) := dq daX9_finds_40 (i := 6) rfl
theorem dX9_finds_88 : decode cX9_finds 88 = .ok (.iconst 1, 1) := dq daX9_finds_40 (i := 7) rfl
theorem dX9_finds_89 : decode cX9_finds 89 = .ok (.goto 4, 3) := dq daX9_finds_40 (i := 8) rfl
theorem dX9_finds_92 : decode cX9_finds 92 = .ok (.iconst 0, 1) := dq daX9_finds_40 (i := 9) rfl
theorem dX9_finds_93 : decode cX9_finds 93 = .ok (.istore 7, 2) := dq daX9_finds_40 (i := 10) rfl
theorem dX9_finds_95 : decode cX9_finds 95 = .ok (.iinc 8 1, 3) := dq daX9_finds_40 (i := 11) rfl
theorem dX9_finds_98 : decode cX9_finds 98 = .ok (.goto (-36), 3) := dq daX9_finds_40 (i := 12) rfl
theorem dX9_finds_101 : decode cX9_finds 101 = .ok (.iload 7, 2) := dq daX9_finds_40 (i := 13) rfl
theorem dX9_finds_103 : decode cX9_finds 103 = .ok (.ifCond .ne 6, 3) := dq daX9_finds_40 (i := 14) rfl
theorem dX9_finds_106 : decode cX9_finds 106 = .ok (.goto 32, 3) := dq daX9_finds_40 (i := 15) rfl
theorem dX9_finds_109 : decode cX9_finds 109 = .ok (.aload_n 0, 1) := dq daX9_finds_40 (i := 16) rfl
theorem dX9_finds_110 : decode cX9_finds 110 = .ok (.getfield 41, 3) := dq daX9_finds_40 (i := 17) rfl
theorem dX9_finds_113 : decode cX9_finds 113 = .ok (.iload_n 3, 1) := dq daX9_finds_40 (i := 18) rfl
theorem dX9_finds_114 : decode cX9_finds 114 = .ok (.iload 6, 2) := dq daX9_finds_40 (i := 19) rfl
theorem dX9_finds_116 : decode cX9_finds 116 = .ok (.iastore, 1) := dq daX9_finds_40 (i := 20) rfl
theorem dX9_finds_117 : decode cX9_finds 117 = .ok (.aload_n 0, 1) := dq daX9_finds_40 (i := 21) rfl
theorem dX9_finds_118 : decode cX9_finds 118 = .ok (.iload_n 1, 1) := dq daX9_finds_40 (i := 22) rfl
theorem dX9_finds_119 : decode cX9_finds 119 = .ok (.iload 6, 2) := dq daX9_finds_40 (i := 23) rfl
theorem dX9_finds_121 : decode cX9_finds 121 = .ok (.iconst 1, 1) := dq daX9_finds_40 (i := 24) rfl
theorem dX9_finds_122 : decode cX9_finds 122 = .ok (.iadd, 1) := dq daX9_finds_40 (i := 25) rfl
theorem dX9_finds_123 : decode cX9_finds 123 = .ok (.iload_n 3, 1) := dq daX9_finds_40 (i := 26) rfl
theorem dX9_finds_124 : decode cX9_finds 124 = .ok (.iconst 1, 1) := dq daX9_finds_40 (i := 27) rfl
theorem dX9_finds_125 : decode cX9_finds 125 = .ok (.iadd, 1) := dq daX9_finds_40 (i := 28) rfl
theorem dX9_finds_126 : decode cX9_finds 126 = .ok (.iload 4, 2) := dq daX9_finds_40 (i := 29) rfl
theorem dX9_finds_128 : decode cX9_finds 128 = .ok (.iload 5, 2) := dq daX9_finds_40 (i := 30) rfl
theorem dX9_finds_130 : decode cX9_finds 130 = .ok (.invokevirtual 245, 3) := dq daX9_finds_40 (i := 31) rfl
theorem dX9_finds_133 : decode cX9_finds 133 = .ok (.ifCond .eq 5, 3) := dq daX9_finds_40 (i := 32) rfl
theorem dX9_finds_136 : decode cX9_finds 136 = .ok (.iconst 1, 1) := dq daX9_finds_40 (i := 33) rfl
theorem dX9_finds_137 : decode cX9_finds 137 = .ok (.ireturn, 1) := dq daX9_finds_40 (i := 34) rfl
theorem dX9_finds_138 : decode cX9_finds 138 = .ok (.iinc 6 1, 3) := dq daX9_finds_40 (i := 35) rfl
theorem dX9_finds_141 : decode cX9_finds 141 = .ok (.goto (-105), 3) := dq daX9_finds_40 (i := 36) rfl
theorem dX9_finds_144 : decode cX9_finds 144 = .ok (.iconst 0, 1) := dq daX9_finds_40 (i := 37) rfl
theorem dX9_finds_145 : decode cX9_finds 145 = .ok (.ireturn, 1) := dq daX9_finds_40 (i := 38) rfl
theorem daX9_trees_0 : dchk cX9_trees [(0, .iload_n 1, 1), (1, .i2l, 1), (2, .ldc2_w 128, 3), (5, .ldc2_w 214, 3), (8, .invokestatic 110, 3), (11, .ifCond .eq 15, 3), (14, .iload_n 2, 1), (15, .i2l, 1), (16, .lconst 0, 1), (17, .ldc2_w 201, 3), (20, .invokestatic 110, 3), (23, .ifCond .ne 5, 3), (26, .iconst (-1), 1), (27, .ireturn, 1), (28, .aload_n 0, 1), (29, .iconst 0, 1), (30, .putfield 242, 3), (33, .aload_n 0, 1), (34, .iload_n 1, 1), (35, .iconst 1, 1), (36, .iconst 0, 1), (37, .iload_n 2, 1), (38, .iconst (-1), 1), (39, .invokevirtual 245, 3), (42, .istore_n 3, 1), (43, .aload_n 0, 1), (44, .getfield 242, 3), (47, .ireturn, 1)] = true := by decide +kernel
theorem dX9_trees_0 : decode cX9_trees 0 = .ok (.iload_n 1, 1) := dq daX9_trees_0 (i := 0) rfl
theorem dX9_trees_1 : decode cX9_trees 1 = .ok (.i2l, 1) := dq daX9_trees_0 (i := 1) rfl
theorem dX9_trees_2 : decode cX9_trees 2 = .ok (.ldc2_w 128, 3) := dq daX9_trees_0 (i := 2) rfl
theorem dX9_trees_5 : decode cX9_trees 5 = .ok (.ldc2_w 214, 3) := dq daX9_trees_0 (i := 3) rfl
theorem dX9_trees_8 : decode cX9_trees 8 = .ok (.invokestatic 110, 3) := dq daX9_trees_0 (i := 4) rfl
theorem dX9_trees_11 : decode cX9_trees 11 = .ok (.ifCond .eq 15, 3) := dq daX9_trees_0 (i := 5) rfl
theorem dX9_trees_14 : decode cX9_trees 14 = .ok (.iload_n 2, 1) := dq daX9_trees_0 (i := 6) rfl
theorem dX9_trees_15 : decode cX9_trees 15 = .ok (.i2l, 1) := dq daX9_trees_0 (i := 7) rfl
theorem dX9_trees_16 : decode cX9_trees 16 = .ok (.lconst 0, 1) := dq daX9_trees_0 (i := 8) rfl
theorem dX9_trees_17 : decode cX9_trees 17 = .ok (.ldc2_w 201, 3) := dq daX9_trees_0 (i := 9) rfl
theorem dX9_trees_20 : decode cX9_trees 20 = .ok (.invokestatic 110, 3) := dq daX9_trees_0 (i := 10) rfl
theorem dX9_trees_23 : decode cX9_trees 23 = .ok (.ifCond .ne 5, 3) := dq daX9_trees_0 (i := 11) rfl
theorem dX9_trees_26 : decode cX9_trees 26 = .ok (.iconst (-1), 1) := dq daX9_trees_0 (i := 12) rfl
theorem dX9_trees_27 : decode cX9_trees 27 = .ok (.ireturn, 1) := dq daX9_trees_0 (i := 13) rfl
theorem dX9_trees_28 : decode cX9_trees 28 = .ok (.aload_n 0, 1) := dq daX9_trees_0 (i := 14) rfl
theorem dX9_trees_29 : decode cX9_trees 29 = .ok (.iconst 0, 1) := dq daX9_trees_0 (i := 15) rfl
theorem dX9_trees_30 : decode cX9_trees 30 = .ok (.putfield 242, 3) := dq daX9_trees_0 (i := 16) rfl
theorem dX9_trees_33 : decode cX9_trees 33 = .ok (.aload_n 0, 1) := dq daX9_trees_0 (i := 17) rfl
theorem dX9_trees_34 : decode cX9_trees 34 = .ok (.iload_n 1, 1) := dq daX9_trees_0 (i := 18) rfl
theorem dX9_trees_35 : decode cX9_trees 35 = .ok (.iconst 1, 1) := dq daX9_trees_0 (i := 19) rfl
theorem dX9_trees_36 : decode cX9_trees 36 = .ok (.iconst 0, 1) := dq daX9_trees_0 (i := 20) rfl
theorem dX9_trees_37 : decode cX9_trees 37 = .ok (.iload_n 2, 1) := dq daX9_trees_0 (i := 21) rfl
theorem dX9_trees_38 : decode cX9_trees 38 = .ok (.iconst (-1), 1) := dq daX9_trees_0 (i := 22) rfl
theorem dX9_trees_39 : decode cX9_trees 39 = .ok (.invokevirtual 245, 3) := dq daX9_trees_0 (i := 23) rfl
theorem dX9_trees_42 : decode cX9_trees 42 = .ok (.istore_n 3, 1) := dq daX9_trees_0 (i := 24) rfl
theorem dX9_trees_43 : decode cX9_trees 43 = .ok (.aload_n 0, 1) := dq daX9_trees_0 (i := 25) rfl
theorem dX9_trees_44 : decode cX9_trees 44 = .ok (.getfield 242, 3) := dq daX9_trees_0 (i := 26) rfl
theorem dX9_trees_47 : decode cX9_trees 47 = .ok (.ireturn, 1) := dq daX9_trees_0 (i := 27) rfl
theorem daX9_tree_0 : dchk cX9_tree [(0, .iload_n 1, 1), (1, .i2l, 1), (2, .ldc2_w 128, 3), (5, .ldc2_w 214, 3), (8, .invokestatic 110, 3), (11, .ifCond .eq 24, 3), (14, .iload_n 2, 1), (15, .i2l, 1), (16, .lconst 0, 1), (17, .ldc2_w 201, 3), (20, .invokestatic 110, 3), (23, .ifCond .eq 12, 3), (26, .iload_n 3, 1), (27, .ifCond .lt 8, 3), (30, .iload 4, 2), (32, .ifCond .ge 5, 3), (35, .iconst (-1), 1), (36, .ireturn, 1), (37, .aload_n 0, 1), (38, .iconst 0, 1), (39, .putfield 242, 3), (42, .aload_n 0, 1), (43, .iload_n 1, 1), (44, .iconst 1, 1), (45, .iconst 0, 1), (46, .iload_n 2, 1), (47, .iload_n 3, 1), (48, .invokevirtual 245, 3), (51, .ifCond .eq 19, 3), (54, .iload 4, 2), (56, .iload_n 2, 1), (57, .if_icmp .ge 13, 3), (60, .aload_n 0, 1), (61, .getfield 41, 3), (64, .iload 4, 2), (66, .iaload, 1), (67, .goto 5, 3), (70, .bipush (-2), 2), (72, .ireturn, 1)] = true := by decide +kernel
theorem dX9_tree_0 : decode cX9_tree 0 = .ok (.iload_n 1, 1) := dq daX9_tree_0 (i := 0) rfl
theorem dX9_tree_1 : decode cX9_tree 1 = .ok (.i2l, 1) := dq daX9_tree_0 (i := 1) rfl
theorem dX9_tree_2 : decode cX9_tree 2 = .ok (.ldc2_w 128, 3) := dq daX9_tree_0 (i := 2) rfl
theorem dX9_tree_5 : decode cX9_tree 5 = .ok (.ldc2_w 214, 3) := dq daX9_tree_0 (i := 3) rfl
theorem dX9_tree_8 : decode cX9_tree 8 = .ok (.invokestatic 110, 3) := dq daX9_tree_0 (i := 4) rfl
theorem dX9_tree_11 : decode cX9_tree 11 = .ok (.ifCond .eq 24, 3) := dq daX9_tree_0 (i := 5) rfl
theorem dX9_tree_14 : decode cX9_tree 14 = .ok (.iload_n 2, 1) := dq daX9_tree_0 (i := 6) rfl
theorem dX9_tree_15 : decode cX9_tree 15 = .ok (.i2l, 1) := dq daX9_tree_0 (i := 7) rfl
theorem dX9_tree_16 : decode cX9_tree 16 = .ok (.lconst 0, 1) := dq daX9_tree_0 (i := 8) rfl
theorem dX9_tree_17 : decode cX9_tree 17 = .ok (.ldc2_w 201, 3) := dq daX9_tree_0 (i := 9) rfl
theorem dX9_tree_20 : decode cX9_tree 20 = .ok (.invokestatic 110, 3) := dq daX9_tree_0 (i := 10) rfl
theorem dX9_tree_23 : decode cX9_tree 23 = .ok (.ifCond .eq 12, 3) := dq daX9_tree_0 (i := 11) rfl
theorem dX9_tree_26 : decode cX9_tree 26 = .ok (.iload_n 3, 1) := dq daX9_tree_0 (i := 12) rfl
theorem dX9_tree_27 : decode cX9_tree 27 = .ok (.ifCond .lt 8, 3) := dq daX9_tree_0 (i := 13) rfl
theorem dX9_tree_30 : decode cX9_tree 30 = .ok (.iload 4, 2) := dq daX9_tree_0 (i := 14) rfl
theorem dX9_tree_32 : decode cX9_tree 32 = .ok (.ifCond .ge 5, 3) := dq daX9_tree_0 (i := 15) rfl
theorem dX9_tree_35 : decode cX9_tree 35 = .ok (.iconst (-1), 1) := dq daX9_tree_0 (i := 16) rfl
theorem dX9_tree_36 : decode cX9_tree 36 = .ok (.ireturn, 1) := dq daX9_tree_0 (i := 17) rfl
theorem dX9_tree_37 : decode cX9_tree 37 = .ok (.aload_n 0, 1) := dq daX9_tree_0 (i := 18) rfl
theorem dX9_tree_38 : decode cX9_tree 38 = .ok (.iconst 0, 1) := dq daX9_tree_0 (i := 19) rfl
theorem dX9_tree_39 : decode cX9_tree 39 = .ok (.putfield 242, 3) := dq daX9_tree_0 (i := 20) rfl
theorem dX9_tree_42 : decode cX9_tree 42 = .ok (.aload_n 0, 1) := dq daX9_tree_0 (i := 21) rfl
theorem dX9_tree_43 : decode cX9_tree 43 = .ok (.iload_n 1, 1) := dq daX9_tree_0 (i := 22) rfl
theorem dX9_tree_44 : decode cX9_tree 44 = .ok (.iconst 1, 1) := dq daX9_tree_0 (i := 23) rfl
theorem dX9_tree_45 : decode cX9_tree 45 = .ok (.iconst 0, 1) := dq daX9_tree_0 (i := 24) rfl
theorem dX9_tree_46 : decode cX9_tree 46 = .ok (.iload_n 2, 1) := dq daX9_tree_0 (i := 25) rfl
theorem dX9_tree_47 : decode cX9_tree 47 = .ok (.iload_n 3, 1) := dq daX9_tree_0 (i := 26) rfl
theorem dX9_tree_48 : decode cX9_tree 48 = .ok (.invokevirtual 245, 3) := dq daX9_tree_0 (i := 27) rfl
theorem dX9_tree_51 : decode cX9_tree 51 = .ok (.ifCond .eq 19, 3) := dq daX9_tree_0 (i := 28) rfl
theorem dX9_tree_54 : decode cX9_tree 54 = .ok (.iload 4, 2) := dq daX9_tree_0 (i := 29) rfl
theorem dX9_tree_56 : decode cX9_tree 56 = .ok (.iload_n 2, 1) := dq daX9_tree_0 (i := 30) rfl
theorem dX9_tree_57 : decode cX9_tree 57 = .ok (.if_icmp .ge 13, 3) := dq daX9_tree_0 (i := 31) rfl
theorem dX9_tree_60 : decode cX9_tree 60 = .ok (.aload_n 0, 1) := dq daX9_tree_0 (i := 32) rfl
theorem dX9_tree_61 : decode cX9_tree 61 = .ok (.getfield 41, 3) := dq daX9_tree_0 (i := 33) rfl
theorem dX9_tree_64 : decode cX9_tree 64 = .ok (.iload 4, 2) := dq daX9_tree_0 (i := 34) rfl
theorem dX9_tree_66 : decode cX9_tree 66 = .ok (.iaload, 1) := dq daX9_tree_0 (i := 35) rfl
theorem dX9_tree_67 : decode cX9_tree 67 = .ok (.goto 5, 3) := dq daX9_tree_0 (i := 36) rfl
theorem dX9_tree_70 : decode cX9_tree 70 = .ok (.bipush (-2), 2) := dq daX9_tree_0 (i := 37) rfl
theorem dX9_tree_72 : decode cX9_tree 72 = .ok (.ireturn, 1) := dq daX9_tree_0 (i := 38) rfl
theorem daX9_without_0 : dchk cX9_without [(0, .iload_n 0, 1), (1, .iconst 1, 1), (2, .iload_n 1, 1), (3, .ishl, 1), (4, .iconst 1, 1), (5, .isub, 1), (6, .iand, 1), (7, .istore_n 3, 1), (8, .iload_n 3, 1), (9, .iload_n 0, 1), (10, .iload_n 1, 1), (11, .iconst 1, 1), (12, .iadd, 1), (13, .ishr, 1), (14, .iload_n 1, 1), (15, .ishl, 1), (16, .ior, 1), (17, .istore 4, 2), (19, .iload 4, 2), (21, .iconst 1, 1), (22, .iand, 1), (23, .iconst 1, 1), (24, .if_icmp .ne 16, 3), (27, .iconst 1, 1), (28, .iload_n 2, 1), (29, .ishl, 1), (30, .iconst 1, 1), (31, .isub, 1), (32, .iload 4, 2), (34, .iconst (-1), 1), (35, .ixor, 1), (36, .iand, 1), (37, .goto 5, 3), (40, .iload 4, 2), (42, .ireturn, 1)] = true := by decide +kernel
theorem dX9_without_0 : decode cX9_without 0 = .ok (.iload_n 0, 1) := dq daX9_without_0 (i := 0) rfl
theorem dX9_without_1 : decode cX9_without 1 = .ok (.iconst 1, 1) := dq daX9_without_0 (i := 1) rfl
theorem dX9_without_2 : decode cX9_without 2 = .ok (.iload_n 1, 1) := dq daX9_without_0 (i := 2) rfl
theorem dX9_without_3 : decode cX9_without 3 = .ok (.ishl, 1) := dq daX9_without_0 (i := 3) rfl
theorem dX9_without_4 : decode cX9_without 4 = .ok (.iconst 1, 1) := dq daX9_without_0 (i := 4) rfl
theorem dX9_without_5 : decode cX9_without 5 = .ok (.isub, 1) := dq daX9_without_0 (i := 5) rfl
theorem dX9_without_6 : decode cX9_without 6 = .ok (.iand, 1) := dq daX9_without_0 (i := 6) rfl
theorem dX9_without_7 : decode cX9_without 7 = .ok (.istore_n 3, 1) := dq daX9_without_0 (i := 7) rfl
theorem dX9_without_8 : decode cX9_without 8 = .ok (.iload_n 3, 1) := dq daX9_without_0 (i := 8) rfl
theorem dX9_without_9 : decode cX9_without 9 = .ok (.iload_n 0, 1) := dq daX9_without_0 (i := 9) rfl
theorem dX9_without_10 : decode cX9_without 10 = .ok (.iload_n 1, 1) := dq daX9_without_0 (i := 10) rfl
theorem dX9_without_11 : decode cX9_without 11 = .ok (.iconst 1, 1) := dq daX9_without_0 (i := 11) rfl
theorem dX9_without_12 : decode cX9_without 12 = .ok (.iadd, 1) := dq daX9_without_0 (i := 12) rfl
theorem dX9_without_13 : decode cX9_without 13 = .ok (.ishr, 1) := dq daX9_without_0 (i := 13) rfl
theorem dX9_without_14 : decode cX9_without 14 = .ok (.iload_n 1, 1) := dq daX9_without_0 (i := 14) rfl
theorem dX9_without_15 : decode cX9_without 15 = .ok (.ishl, 1) := dq daX9_without_0 (i := 15) rfl
theorem dX9_without_16 : decode cX9_without 16 = .ok (.ior, 1) := dq daX9_without_0 (i := 16) rfl
theorem dX9_without_17 : decode cX9_without 17 = .ok (.istore 4, 2) := dq daX9_without_0 (i := 17) rfl
theorem dX9_without_19 : decode cX9_without 19 = .ok (.iload 4, 2) := dq daX9_without_0 (i := 18) rfl
theorem dX9_without_21 : decode cX9_without 21 = .ok (.iconst 1, 1) := dq daX9_without_0 (i := 19) rfl
theorem dX9_without_22 : decode cX9_without 22 = .ok (.iand, 1) := dq daX9_without_0 (i := 20) rfl
theorem dX9_without_23 : decode cX9_without 23 = .ok (.iconst 1, 1) := dq daX9_without_0 (i := 21) rfl
theorem dX9_without_24 : decode cX9_without 24 = .ok (.if_icmp .ne 16, 3) := dq daX9_without_0 (i := 22) rfl
theorem dX9_without_27 : decode cX9_without 27 = .ok (.iconst 1, 1) := dq daX9_without_0 (i := 23) rfl
theorem dX9_without_28 : decode cX9_without 28 = .ok (.iload_n 2, 1) := dq daX9_without_0 (i := 24) rfl
theorem dX9_without_29 : decode cX9_without 29 = .ok (.ishl, 1) := dq daX9_without_0 (i := 25) rfl
theorem dX9_without_30 : decode cX9_without 30 = .ok (.iconst 1, 1) := dq daX9_without_0 (i := 26) rfl
theorem dX9_without_31 : decode cX9_without 31 = .ok (.isub, 1) := dq daX9_without_0 (i := 27) rfl
theorem dX9_without_32 : decode cX9_without 32 = .ok (.iload 4, 2) := dq daX9_without_0 (i := 28) rfl
theorem dX9_without_34 : decode cX9_without 34 = .ok (.iconst (-1), 1) := dq daX9_without_0 (i := 29) rfl
theorem dX9_without_35 : decode cX9_without 35 = .ok (.ixor, 1) := dq daX9_without_0 (i := 30) rfl
theorem dX9_without_36 : decode cX9_without 36 = .ok (.iand, 1) := dq daX9_without_0 (i := 31) rfl
theorem dX9_without_37 : decode cX9_without 37 = .ok (.goto 5, 3) := dq daX9_without_0 (i := 32) rfl
theorem dX9_without_40 : decode cX9_without 40 = .ok (.iload 4, 2) := dq daX9_without_0 (i := 33) rfl
theorem dX9_without_42 : decode cX9_without 42 = .ok (.ireturn, 1) := dq daX9_without_0 (i := 34) rfl
theorem daX9_forget_0 : dchk cX9_forget [(0, .iload_n 1, 1), (1, .i2l, 1), (2, .lconst 0, 1), (3, .aload_n 0, 1), (4, .getfield 15, 3), (7, .iconst 1, 1), (8, .isub, 1), (9, .i2l, 1), (10, .invokestatic 110, 3), (13, .ifCond .ne 5, 3), (16, .iconst (-1), 1), (17, .ireturn, 1), (18, .aload_n 0, 1), (19, .getfield 15, 3), (22, .iconst 3, 1), (23, .if_icmp .ne 6, 3), (26, .bipush (-5), 2), (28, .ireturn, 1), (29, .aload_n 0, 1), (30, .invokevirtual 116, 3), (33, .aload_n 0, 1), (34, .getfield 94, 3), (37, .istore_n 2, 1), (38, .aload_n 0, 1), (39, .dup, 1), (40, .getfield 15, 3), (43, .iconst 1, 1), (44, .isub, 1), (45, .putfield 15, 3), (48, .aload_n 0, 1), (49, .iconst 0, 1), (50, .putfield 94, 3), (53, .iconst 0, 1), (54, .istore_n 3, 1), (55, .iload_n 3, 1), (56, .iload_n 2, 1), (57, .if_icmp .ge 55, 3), (60, .aload_n 0, 1), (61, .getfield 28, 3), (64, .bipush 12, 2)] = true := by decide +kernel
theorem dX9_forget_0 : decode cX9_forget 0 = .ok (.iload_n 1, 1) := dq daX9_forget_0 (i := 0) rfl
theorem dX9_forget_1 : decode cX9_forget 1 = .ok (.i2l, 1) := dq daX9_forget_0 (i := 1) rfl
theorem dX9_forget_2 : decode cX9_forget 2 = .ok (.lconst 0, 1) := dq daX9_forget_0 (i := 2) rfl
theorem dX9_forget_3 : decode cX9_forget 3 = .ok (.aload_n 0, 1) := dq daX9_forget_0 (i := 3) rfl
theorem dX9_forget_4 : decode cX9_forget 4 = .ok (.getfield 15, 3) := dq daX9_forget_0 (i := 4) rfl
theorem dX9_forget_7 : decode cX9_forget 7 = .ok (.iconst 1, 1) := dq daX9_forget_0 (i := 5) rfl
theorem dX9_forget_8 : decode cX9_forget 8 = .ok (.isub, 1) := dq daX9_forget_0 (i := 6) rfl
theorem dX9_forget_9 : decode cX9_forget 9 = .ok (.i2l, 1) := dq daX9_forget_0 (i := 7) rfl
theorem dX9_forget_10 : decode cX9_forget 10 = .ok (.invokestatic 110, 3) := dq daX9_forget_0 (i := 8) rfl
theorem dX9_forget_13 : decode cX9_forget 13 = .ok (.ifCond .ne 5, 3) := dq daX9_forget_0 (i := 9) rfl
theorem dX9_forget_16 : decode cX9_forget 16 = .ok (.iconst (-1), 1) := dq daX9_forget_0 (i := 10) rfl
theorem dX9_forget_17 : decode cX9_forget 17 = .ok (.ireturn, 1) := dq daX9_forget_0 (i := 11) rfl
theorem dX9_forget_18 : decode cX9_forget 18 = .ok (.aload_n 0, 1) := dq daX9_forget_0 (i := 12) rfl
theorem dX9_forget_19 : decode cX9_forget 19 = .ok (.getfield 15, 3) := dq daX9_forget_0 (i := 13) rfl
theorem dX9_forget_22 : decode cX9_forget 22 = .ok (.iconst 3, 1) := dq daX9_forget_0 (i := 14) rfl
theorem dX9_forget_23 : decode cX9_forget 23 = .ok (.if_icmp .ne 6, 3) := dq daX9_forget_0 (i := 15) rfl
theorem dX9_forget_26 : decode cX9_forget 26 = .ok (.bipush (-5), 2) := dq daX9_forget_0 (i := 16) rfl
theorem dX9_forget_28 : decode cX9_forget 28 = .ok (.ireturn, 1) := dq daX9_forget_0 (i := 17) rfl
theorem dX9_forget_29 : decode cX9_forget 29 = .ok (.aload_n 0, 1) := dq daX9_forget_0 (i := 18) rfl
theorem dX9_forget_30 : decode cX9_forget 30 = .ok (.invokevirtual 116, 3) := dq daX9_forget_0 (i := 19) rfl
theorem dX9_forget_33 : decode cX9_forget 33 = .ok (.aload_n 0, 1) := dq daX9_forget_0 (i := 20) rfl
theorem dX9_forget_34 : decode cX9_forget 34 = .ok (.getfield 94, 3) := dq daX9_forget_0 (i := 21) rfl
theorem dX9_forget_37 : decode cX9_forget 37 = .ok (.istore_n 2, 1) := dq daX9_forget_0 (i := 22) rfl
theorem dX9_forget_38 : decode cX9_forget 38 = .ok (.aload_n 0, 1) := dq daX9_forget_0 (i := 23) rfl
theorem dX9_forget_39 : decode cX9_forget 39 = .ok (.dup, 1) := dq daX9_forget_0 (i := 24) rfl
theorem dX9_forget_40 : decode cX9_forget 40 = .ok (.getfield 15, 3) := dq daX9_forget_0 (i := 25) rfl
theorem dX9_forget_43 : decode cX9_forget 43 = .ok (.iconst 1, 1) := dq daX9_forget_0 (i := 26) rfl
theorem dX9_forget_44 : decode cX9_forget 44 = .ok (.isub, 1) := dq daX9_forget_0 (i := 27) rfl
theorem dX9_forget_45 : decode cX9_forget 45 = .ok (.putfield 15, 3) := dq daX9_forget_0 (i := 28) rfl
theorem dX9_forget_48 : decode cX9_forget 48 = .ok (.aload_n 0, 1) := dq daX9_forget_0 (i := 29) rfl
theorem dX9_forget_49 : decode cX9_forget 49 = .ok (.iconst 0, 1) := dq daX9_forget_0 (i := 30) rfl
theorem dX9_forget_50 : decode cX9_forget 50 = .ok (.putfield 94, 3) := dq daX9_forget_0 (i := 31) rfl
theorem dX9_forget_53 : decode cX9_forget 53 = .ok (.iconst 0, 1) := dq daX9_forget_0 (i := 32) rfl
theorem dX9_forget_54 : decode cX9_forget 54 = .ok (.istore_n 3, 1) := dq daX9_forget_0 (i := 33) rfl
theorem dX9_forget_55 : decode cX9_forget 55 = .ok (.iload_n 3, 1) := dq daX9_forget_0 (i := 34) rfl
theorem dX9_forget_56 : decode cX9_forget 56 = .ok (.iload_n 2, 1) := dq daX9_forget_0 (i := 35) rfl
theorem dX9_forget_57 : decode cX9_forget 57 = .ok (.if_icmp .ge 55, 3) := dq daX9_forget_0 (i := 36) rfl
theorem dX9_forget_60 : decode cX9_forget 60 = .ok (.aload_n 0, 1) := dq daX9_forget_0 (i := 37) rfl
theorem dX9_forget_61 : decode cX9_forget 61 = .ok (.getfield 28, 3) := dq daX9_forget_0 (i := 38) rfl
theorem dX9_forget_64 : decode cX9_forget 64 = .ok (.bipush 12, 2) := dq daX9_forget_0 (i := 39) rfl
theorem daX9_forget_40 : dchk cX9_forget [(66, .iload_n 3, 1), (67, .iadd, 1), (68, .iaload, 1), (69, .iload_n 1, 1), (70, .aload_n 0, 1), (71, .getfield 15, 3), (74, .invokestatic 249, 3), (77, .istore 4, 2), (79, .iload 4, 2), (81, .aload_n 0, 1), (82, .getfield 15, 3), (85, .invokestatic 216, 3), (88, .ifCond .eq 18, 3), (91, .aload_n 0, 1), (92, .iload 4, 2), (94, .invokevirtual 226, 3), (97, .ifCond .ge 9, 3), (100, .aload_n 0, 1), (101, .iload 4, 2), (103, .invokevirtual 222, 3), (106, .iinc 3 1, 3), (109, .goto (-54), 3), (112, .aload_n 0, 1), (113, .invokevirtual 119, 3), (116, .aload_n 0, 1), (117, .getfield 94, 3), (120, .ireturn, 1)] = true := by decide +kernel
theorem dX9_forget_66 : decode cX9_forget 66 = .ok (.iload_n 3, 1) := dq daX9_forget_40 (i := 0) rfl
theorem dX9_forget_67 : decode cX9_forget 67 = .ok (.iadd, 1) := dq daX9_forget_40 (i := 1) rfl
theorem dX9_forget_68 : decode cX9_forget 68 = .ok (.iaload, 1) := dq daX9_forget_40 (i := 2) rfl
theorem dX9_forget_69 : decode cX9_forget 69 = .ok (.iload_n 1, 1) := dq daX9_forget_40 (i := 3) rfl
theorem dX9_forget_70 : decode cX9_forget 70 = .ok (.aload_n 0, 1) := dq daX9_forget_40 (i := 4) rfl
theorem dX9_forget_71 : decode cX9_forget 71 = .ok (.getfield 15, 3) := dq daX9_forget_40 (i := 5) rfl
theorem dX9_forget_74 : decode cX9_forget 74 = .ok (.invokestatic 249, 3) := dq daX9_forget_40 (i := 6) rfl
theorem dX9_forget_77 : decode cX9_forget 77 = .ok (.istore 4, 2) := dq daX9_forget_40 (i := 7) rfl
theorem dX9_forget_79 : decode cX9_forget 79 = .ok (.iload 4, 2) := dq daX9_forget_40 (i := 8) rfl
theorem dX9_forget_81 : decode cX9_forget 81 = .ok (.aload_n 0, 1) := dq daX9_forget_40 (i := 9) rfl
theorem dX9_forget_82 : decode cX9_forget 82 = .ok (.getfield 15, 3) := dq daX9_forget_40 (i := 10) rfl
theorem dX9_forget_85 : decode cX9_forget 85 = .ok (.invokestatic 216, 3) := dq daX9_forget_40 (i := 11) rfl
theorem dX9_forget_88 : decode cX9_forget 88 = .ok (.ifCond .eq 18, 3) := dq daX9_forget_40 (i := 12) rfl
theorem dX9_forget_91 : decode cX9_forget 91 = .ok (.aload_n 0, 1) := dq daX9_forget_40 (i := 13) rfl
theorem dX9_forget_92 : decode cX9_forget 92 = .ok (.iload 4, 2) := dq daX9_forget_40 (i := 14) rfl
theorem dX9_forget_94 : decode cX9_forget 94 = .ok (.invokevirtual 226, 3) := dq daX9_forget_40 (i := 15) rfl
theorem dX9_forget_97 : decode cX9_forget 97 = .ok (.ifCond .ge 9, 3) := dq daX9_forget_40 (i := 16) rfl
theorem dX9_forget_100 : decode cX9_forget 100 = .ok (.aload_n 0, 1) := dq daX9_forget_40 (i := 17) rfl
theorem dX9_forget_101 : decode cX9_forget 101 = .ok (.iload 4, 2) := dq daX9_forget_40 (i := 18) rfl
theorem dX9_forget_103 : decode cX9_forget 103 = .ok (.invokevirtual 222, 3) := dq daX9_forget_40 (i := 19) rfl
theorem dX9_forget_106 : decode cX9_forget 106 = .ok (.iinc 3 1, 3) := dq daX9_forget_40 (i := 20) rfl
theorem dX9_forget_109 : decode cX9_forget 109 = .ok (.goto (-54), 3) := dq daX9_forget_40 (i := 21) rfl
theorem dX9_forget_112 : decode cX9_forget 112 = .ok (.aload_n 0, 1) := dq daX9_forget_40 (i := 22) rfl
theorem dX9_forget_113 : decode cX9_forget 113 = .ok (.invokevirtual 119, 3) := dq daX9_forget_40 (i := 23) rfl
theorem dX9_forget_116 : decode cX9_forget 116 = .ok (.aload_n 0, 1) := dq daX9_forget_40 (i := 24) rfl
theorem dX9_forget_117 : decode cX9_forget 117 = .ok (.getfield 94, 3) := dq daX9_forget_40 (i := 25) rfl
theorem dX9_forget_120 : decode cX9_forget 120 = .ok (.ireturn, 1) := dq daX9_forget_40 (i := 26) rfl
theorem daX9_numberAtNode_0 : dchk cX9_numberAtNode [(0, .aload_n 0, 1), (1, .iload_n 1, 1), (2, .invokevirtual 236, 3), (5, .istore_n 2, 1), (6, .iconst 0, 1), (7, .istore_n 3, 1), (8, .iconst 0, 1), (9, .istore 4, 2), (11, .iload 4, 2), (13, .aload_n 0, 1), (14, .getfield 15, 3), (17, .if_icmp .ge 37, 3), (20, .iload_n 2, 1), (21, .iload 4, 2), (23, .ishr, 1), (24, .iconst 1, 1), (25, .iand, 1), (26, .ifCond .ne 6, 3), (29, .goto 19, 3), (32, .aload_n 0, 1), (33, .getfield 31, 3), (36, .iload_n 3, 1), (37, .aload_n 0, 1), (38, .getfield 11, 3), (41, .iload 4, 2), (43, .iaload, 1), (44, .iastore, 1), (45, .iinc 3 1, 3), (48, .iinc 4 1, 3), (51, .goto (-40), 3), (54, .iload_n 3, 1), (55, .aload_n 0, 1), (56, .iload_n 1, 1), (57, .invokevirtual 239, 3), (60, .iadd, 1), (61, .istore 4, 2), (63, .iload_n 3, 1), (64, .iload 4, 2), (66, .if_icmp .ge 16, 3), (69, .aload_n 0, 1)] = true := by decide +kernel
theorem dX9_numberAtNode_0 : decode cX9_numberAtNode 0 = .ok (.aload_n 0, 1) := dq daX9_numberAtNode_0 (i := 0) rfl
theorem dX9_numberAtNode_1 : decode cX9_numberAtNode 1 = .ok (.iload_n 1, 1) := dq daX9_numberAtNode_0 (i := 1) rfl
theorem dX9_numberAtNode_2 : decode cX9_numberAtNode 2 = .ok (.invokevirtual 236, 3) := dq daX9_numberAtNode_0 (i := 2) rfl
theorem dX9_numberAtNode_5 : decode cX9_numberAtNode 5 = .ok (.istore_n 2, 1) := dq daX9_numberAtNode_0 (i := 3) rfl
theorem dX9_numberAtNode_6 : decode cX9_numberAtNode 6 = .ok (.iconst 0, 1) := dq daX9_numberAtNode_0 (i := 4) rfl
theorem dX9_numberAtNode_7 : decode cX9_numberAtNode 7 = .ok (.istore_n 3, 1) := dq daX9_numberAtNode_0 (i := 5) rfl
theorem dX9_numberAtNode_8 : decode cX9_numberAtNode 8 = .ok (.iconst 0, 1) := dq daX9_numberAtNode_0 (i := 6) rfl
theorem dX9_numberAtNode_9 : decode cX9_numberAtNode 9 = .ok (.istore 4, 2) := dq daX9_numberAtNode_0 (i := 7) rfl
theorem dX9_numberAtNode_11 : decode cX9_numberAtNode 11 = .ok (.iload 4, 2) := dq daX9_numberAtNode_0 (i := 8) rfl
theorem dX9_numberAtNode_13 : decode cX9_numberAtNode 13 = .ok (.aload_n 0, 1) := dq daX9_numberAtNode_0 (i := 9) rfl
theorem dX9_numberAtNode_14 : decode cX9_numberAtNode 14 = .ok (.getfield 15, 3) := dq daX9_numberAtNode_0 (i := 10) rfl
theorem dX9_numberAtNode_17 : decode cX9_numberAtNode 17 = .ok (.if_icmp .ge 37, 3) := dq daX9_numberAtNode_0 (i := 11) rfl
theorem dX9_numberAtNode_20 : decode cX9_numberAtNode 20 = .ok (.iload_n 2, 1) := dq daX9_numberAtNode_0 (i := 12) rfl
theorem dX9_numberAtNode_21 : decode cX9_numberAtNode 21 = .ok (.iload 4, 2) := dq daX9_numberAtNode_0 (i := 13) rfl
theorem dX9_numberAtNode_23 : decode cX9_numberAtNode 23 = .ok (.ishr, 1) := dq daX9_numberAtNode_0 (i := 14) rfl
theorem dX9_numberAtNode_24 : decode cX9_numberAtNode 24 = .ok (.iconst 1, 1) := dq daX9_numberAtNode_0 (i := 15) rfl
theorem dX9_numberAtNode_25 : decode cX9_numberAtNode 25 = .ok (.iand, 1) := dq daX9_numberAtNode_0 (i := 16) rfl
theorem dX9_numberAtNode_26 : decode cX9_numberAtNode 26 = .ok (.ifCond .ne 6, 3) := dq daX9_numberAtNode_0 (i := 17) rfl
theorem dX9_numberAtNode_29 : decode cX9_numberAtNode 29 = .ok (.goto 19, 3) := dq daX9_numberAtNode_0 (i := 18) rfl
theorem dX9_numberAtNode_32 : decode cX9_numberAtNode 32 = .ok (.aload_n 0, 1) := dq daX9_numberAtNode_0 (i := 19) rfl
theorem dX9_numberAtNode_33 : decode cX9_numberAtNode 33 = .ok (.getfield 31, 3) := dq daX9_numberAtNode_0 (i := 20) rfl
theorem dX9_numberAtNode_36 : decode cX9_numberAtNode 36 = .ok (.iload_n 3, 1) := dq daX9_numberAtNode_0 (i := 21) rfl
theorem dX9_numberAtNode_37 : decode cX9_numberAtNode 37 = .ok (.aload_n 0, 1) := dq daX9_numberAtNode_0 (i := 22) rfl
theorem dX9_numberAtNode_38 : decode cX9_numberAtNode 38 = .ok (.getfield 11, 3) := dq daX9_numberAtNode_0 (i := 23) rfl
theorem dX9_numberAtNode_41 : decode cX9_numberAtNode 41 = .ok (.iload 4, 2) := dq daX9_numberAtNode_0 (i := 24) rfl
theorem dX9_numberAtNode_43 : decode cX9_numberAtNode 43 = .ok (.iaload, 1) := dq daX9_numberAtNode_0 (i := 25) rfl
theorem dX9_numberAtNode_44 : decode cX9_numberAtNode 44 = .ok (.iastore, 1) := dq daX9_numberAtNode_0 (i := 26) rfl
theorem dX9_numberAtNode_45 : decode cX9_numberAtNode 45 = .ok (.iinc 3 1, 3) := dq daX9_numberAtNode_0 (i := 27) rfl
theorem dX9_numberAtNode_48 : decode cX9_numberAtNode 48 = .ok (.iinc 4 1, 3) := dq daX9_numberAtNode_0 (i := 28) rfl
theorem dX9_numberAtNode_51 : decode cX9_numberAtNode 51 = .ok (.goto (-40), 3) := dq daX9_numberAtNode_0 (i := 29) rfl
theorem dX9_numberAtNode_54 : decode cX9_numberAtNode 54 = .ok (.iload_n 3, 1) := dq daX9_numberAtNode_0 (i := 30) rfl
theorem dX9_numberAtNode_55 : decode cX9_numberAtNode 55 = .ok (.aload_n 0, 1) := dq daX9_numberAtNode_0 (i := 31) rfl
theorem dX9_numberAtNode_56 : decode cX9_numberAtNode 56 = .ok (.iload_n 1, 1) := dq daX9_numberAtNode_0 (i := 32) rfl
theorem dX9_numberAtNode_57 : decode cX9_numberAtNode 57 = .ok (.invokevirtual 239, 3) := dq daX9_numberAtNode_0 (i := 33) rfl
theorem dX9_numberAtNode_60 : decode cX9_numberAtNode 60 = .ok (.iadd, 1) := dq daX9_numberAtNode_0 (i := 34) rfl
theorem dX9_numberAtNode_61 : decode cX9_numberAtNode 61 = .ok (.istore 4, 2) := dq daX9_numberAtNode_0 (i := 35) rfl
theorem dX9_numberAtNode_63 : decode cX9_numberAtNode 63 = .ok (.iload_n 3, 1) := dq daX9_numberAtNode_0 (i := 36) rfl
theorem dX9_numberAtNode_64 : decode cX9_numberAtNode 64 = .ok (.iload 4, 2) := dq daX9_numberAtNode_0 (i := 37) rfl
theorem dX9_numberAtNode_66 : decode cX9_numberAtNode 66 = .ok (.if_icmp .ge 16, 3) := dq daX9_numberAtNode_0 (i := 38) rfl
theorem dX9_numberAtNode_69 : decode cX9_numberAtNode 69 = .ok (.aload_n 0, 1) := dq daX9_numberAtNode_0 (i := 39) rfl
theorem daX9_numberAtNode_40 : dchk cX9_numberAtNode [(70, .getfield 31, 3), (73, .iload_n 3, 1), (74, .iconst 0, 1), (75, .iastore, 1), (76, .iinc 3 1, 3), (79, .goto (-16), 3), (82, .aload_n 0, 1), (83, .iconst 0, 1), (84, .iload_n 3, 1), (85, .invokevirtual 165, 3), (88, .lreturn, 1)] = true := by decide +kernel
theorem dX9_numberAtNode_70 : decode cX9_numberAtNode 70 = .ok (.getfield 31, 3) := dq daX9_numberAtNode_40 (i := 0) rfl
theorem dX9_numberAtNode_73 : decode cX9_numberAtNode 73 = .ok (.iload_n 3, 1) := dq daX9_numberAtNode_40 (i := 1) rfl
theorem dX9_numberAtNode_74 : decode cX9_numberAtNode 74 = .ok (.iconst 0, 1) := dq daX9_numberAtNode_40 (i := 2) rfl
theorem dX9_numberAtNode_75 : decode cX9_numberAtNode 75 = .ok (.iastore, 1) := dq daX9_numberAtNode_40 (i := 3) rfl
theorem dX9_numberAtNode_76 : decode cX9_numberAtNode 76 = .ok (.iinc 3 1, 3) := dq daX9_numberAtNode_40 (i := 4) rfl
theorem dX9_numberAtNode_79 : decode cX9_numberAtNode 79 = .ok (.goto (-16), 3) := dq daX9_numberAtNode_40 (i := 5) rfl
theorem dX9_numberAtNode_82 : decode cX9_numberAtNode 82 = .ok (.aload_n 0, 1) := dq daX9_numberAtNode_40 (i := 6) rfl
theorem dX9_numberAtNode_83 : decode cX9_numberAtNode 83 = .ok (.iconst 0, 1) := dq daX9_numberAtNode_40 (i := 7) rfl
theorem dX9_numberAtNode_84 : decode cX9_numberAtNode 84 = .ok (.iload_n 3, 1) := dq daX9_numberAtNode_40 (i := 8) rfl
theorem dX9_numberAtNode_85 : decode cX9_numberAtNode 85 = .ok (.invokevirtual 165, 3) := dq daX9_numberAtNode_40 (i := 9) rfl
theorem dX9_numberAtNode_88 : decode cX9_numberAtNode 88 = .ok (.lreturn, 1) := dq daX9_numberAtNode_40 (i := 10) rfl
theorem daX9_onTree_0 : dchk cX9_onTree [(0, .aload_n 0, 1), (1, .getfield 91, 3), (4, .aload_n 0, 1), (5, .getfield 15, 3), (8, .if_icmp .eq 7, 3), (11, .ldc2_w 181, 3), (14, .lreturn, 1), (15, .aload_n 0, 1), (16, .iconst 0, 1), (17, .invokevirtual 253, 3), (20, .lstore_n 1, 1), (21, .iconst 0, 1), (22, .istore_n 3, 1), (23, .iload_n 3, 1), (24, .aload_n 0, 1), (25, .getfield 94, 3), (28, .if_icmp .ge 22, 3), (31, .lload_n 1, 1), (32, .aload_n 0, 1), (33, .aload_n 0, 1), (34, .getfield 19, 3), (37, .iload_n 3, 1), (38, .iaload, 1), (39, .invokevirtual 253, 3), (42, .lmul, 1), (43, .lstore_n 1, 1), (44, .iinc 3 1, 3), (47, .goto (-24), 3), (50, .lload_n 1, 1), (51, .lreturn, 1)] = true := by decide +kernel
theorem dX9_onTree_0 : decode cX9_onTree 0 = .ok (.aload_n 0, 1) := dq daX9_onTree_0 (i := 0) rfl
theorem dX9_onTree_1 : decode cX9_onTree 1 = .ok (.getfield 91, 3) := dq daX9_onTree_0 (i := 1) rfl
theorem dX9_onTree_4 : decode cX9_onTree 4 = .ok (.aload_n 0, 1) := dq daX9_onTree_0 (i := 2) rfl
theorem dX9_onTree_5 : decode cX9_onTree 5 = .ok (.getfield 15, 3) := dq daX9_onTree_0 (i := 3) rfl
theorem dX9_onTree_8 : decode cX9_onTree 8 = .ok (.if_icmp .eq 7, 3) := dq daX9_onTree_0 (i := 4) rfl
theorem dX9_onTree_11 : decode cX9_onTree 11 = .ok (.ldc2_w 181, 3) := dq daX9_onTree_0 (i := 5) rfl
theorem dX9_onTree_14 : decode cX9_onTree 14 = .ok (.lreturn, 1) := dq daX9_onTree_0 (i := 6) rfl
theorem dX9_onTree_15 : decode cX9_onTree 15 = .ok (.aload_n 0, 1) := dq daX9_onTree_0 (i := 7) rfl
theorem dX9_onTree_16 : decode cX9_onTree 16 = .ok (.iconst 0, 1) := dq daX9_onTree_0 (i := 8) rfl
theorem dX9_onTree_17 : decode cX9_onTree 17 = .ok (.invokevirtual 253, 3) := dq daX9_onTree_0 (i := 9) rfl
theorem dX9_onTree_20 : decode cX9_onTree 20 = .ok (.lstore_n 1, 1) := dq daX9_onTree_0 (i := 10) rfl
theorem dX9_onTree_21 : decode cX9_onTree 21 = .ok (.iconst 0, 1) := dq daX9_onTree_0 (i := 11) rfl
theorem dX9_onTree_22 : decode cX9_onTree 22 = .ok (.istore_n 3, 1) := dq daX9_onTree_0 (i := 12) rfl
theorem dX9_onTree_23 : decode cX9_onTree 23 = .ok (.iload_n 3, 1) := dq daX9_onTree_0 (i := 13) rfl
theorem dX9_onTree_24 : decode cX9_onTree 24 = .ok (.aload_n 0, 1) := dq daX9_onTree_0 (i := 14) rfl
theorem dX9_onTree_25 : decode cX9_onTree 25 = .ok (.getfield 94, 3) := dq daX9_onTree_0 (i := 15) rfl
theorem dX9_onTree_28 : decode cX9_onTree 28 = .ok (.if_icmp .ge 22, 3) := dq daX9_onTree_0 (i := 16) rfl
theorem dX9_onTree_31 : decode cX9_onTree 31 = .ok (.lload_n 1, 1) := dq daX9_onTree_0 (i := 17) rfl
theorem dX9_onTree_32 : decode cX9_onTree 32 = .ok (.aload_n 0, 1) := dq daX9_onTree_0 (i := 18) rfl
theorem dX9_onTree_33 : decode cX9_onTree 33 = .ok (.aload_n 0, 1) := dq daX9_onTree_0 (i := 19) rfl
theorem dX9_onTree_34 : decode cX9_onTree 34 = .ok (.getfield 19, 3) := dq daX9_onTree_0 (i := 20) rfl
theorem dX9_onTree_37 : decode cX9_onTree 37 = .ok (.iload_n 3, 1) := dq daX9_onTree_0 (i := 21) rfl
theorem dX9_onTree_38 : decode cX9_onTree 38 = .ok (.iaload, 1) := dq daX9_onTree_0 (i := 22) rfl
theorem dX9_onTree_39 : decode cX9_onTree 39 = .ok (.invokevirtual 253, 3) := dq daX9_onTree_0 (i := 23) rfl
theorem dX9_onTree_42 : decode cX9_onTree 42 = .ok (.lmul, 1) := dq daX9_onTree_0 (i := 24) rfl
theorem dX9_onTree_43 : decode cX9_onTree 43 = .ok (.lstore_n 1, 1) := dq daX9_onTree_0 (i := 25) rfl
theorem dX9_onTree_44 : decode cX9_onTree 44 = .ok (.iinc 3 1, 3) := dq daX9_onTree_0 (i := 26) rfl
theorem dX9_onTree_47 : decode cX9_onTree 47 = .ok (.goto (-24), 3) := dq daX9_onTree_0 (i := 27) rfl
theorem dX9_onTree_50 : decode cX9_onTree 50 = .ok (.lload_n 1, 1) := dq daX9_onTree_0 (i := 28) rfl
theorem dX9_onTree_51 : decode cX9_onTree 51 = .ok (.lreturn, 1) := dq daX9_onTree_0 (i := 29) rfl
theorem daX9_feed_0 : dchk cX9_feed [(0, .iload_n 2, 1), (1, .i2l, 1), (2, .lconst 1, 1), (3, .ldc2_w 256, 3), (6, .invokestatic 110, 3), (9, .ifCond .ne 5, 3), (12, .iconst (-1), 1), (13, .ireturn, 1), (14, .aload_n 0, 1), (15, .getfield 258, 3), (18, .iload_n 2, 1), (19, .iadd, 1), (20, .bipush 60, 2), (22, .if_icmp .le 6, 3), (25, .bipush (-3), 2), (27, .ireturn, 1), (28, .iload_n 2, 1), (29, .iconst 1, 1), (30, .isub, 1), (31, .istore_n 3, 1), (32, .iload_n 3, 1), (33, .ifCond .lt 38, 3), (36, .aload_n 0, 1), (37, .getfield 44, 3), (40, .aload_n 0, 1), (41, .getfield 258, 3), (44, .iload_n 1, 1), (45, .bipush 8, 2), (47, .iload_n 3, 1), (48, .imul, 1), (49, .iushr, 1), (50, .sipush 255, 3), (53, .iand, 1), (54, .iastore, 1), (55, .aload_n 0, 1), (56, .dup, 1), (57, .getfield 258, 3), (60, .iconst 1, 1), (61, .iadd, 1), (62, .putfield 258, 3)] = true := by decide +kernel
theorem dX9_feed_0 : decode cX9_feed 0 = .ok (.iload_n 2, 1) := dq daX9_feed_0 (i := 0) rfl
theorem dX9_feed_1 : decode cX9_feed 1 = .ok (.i2l, 1) := dq daX9_feed_0 (i := 1) rfl
theorem dX9_feed_2 : decode cX9_feed 2 = .ok (.lconst 1, 1) := dq daX9_feed_0 (i := 2) rfl
theorem dX9_feed_3 : decode cX9_feed 3 = .ok (.ldc2_w 256, 3) := dq daX9_feed_0 (i := 3) rfl
theorem dX9_feed_6 : decode cX9_feed 6 = .ok (.invokestatic 110, 3) := dq daX9_feed_0 (i := 4) rfl
theorem dX9_feed_9 : decode cX9_feed 9 = .ok (.ifCond .ne 5, 3) := dq daX9_feed_0 (i := 5) rfl
theorem dX9_feed_12 : decode cX9_feed 12 = .ok (.iconst (-1), 1) := dq daX9_feed_0 (i := 6) rfl
theorem dX9_feed_13 : decode cX9_feed 13 = .ok (.ireturn, 1) := dq daX9_feed_0 (i := 7) rfl
theorem dX9_feed_14 : decode cX9_feed 14 = .ok (.aload_n 0, 1) := dq daX9_feed_0 (i := 8) rfl
theorem dX9_feed_15 : decode cX9_feed 15 = .ok (.getfield 258, 3) := dq daX9_feed_0 (i := 9) rfl
theorem dX9_feed_18 : decode cX9_feed 18 = .ok (.iload_n 2, 1) := dq daX9_feed_0 (i := 10) rfl
theorem dX9_feed_19 : decode cX9_feed 19 = .ok (.iadd, 1) := dq daX9_feed_0 (i := 11) rfl
theorem dX9_feed_20 : decode cX9_feed 20 = .ok (.bipush 60, 2) := dq daX9_feed_0 (i := 12) rfl
theorem dX9_feed_22 : decode cX9_feed 22 = .ok (.if_icmp .le 6, 3) := dq daX9_feed_0 (i := 13) rfl
theorem dX9_feed_25 : decode cX9_feed 25 = .ok (.bipush (-3), 2) := dq daX9_feed_0 (i := 14) rfl
theorem dX9_feed_27 : decode cX9_feed 27 = .ok (.ireturn, 1) := dq daX9_feed_0 (i := 15) rfl
theorem dX9_feed_28 : decode cX9_feed 28 = .ok (.iload_n 2, 1) := dq daX9_feed_0 (i := 16) rfl
theorem dX9_feed_29 : decode cX9_feed 29 = .ok (.iconst 1, 1) := dq daX9_feed_0 (i := 17) rfl
theorem dX9_feed_30 : decode cX9_feed 30 = .ok (.isub, 1) := dq daX9_feed_0 (i := 18) rfl
theorem dX9_feed_31 : decode cX9_feed 31 = .ok (.istore_n 3, 1) := dq daX9_feed_0 (i := 19) rfl
theorem dX9_feed_32 : decode cX9_feed 32 = .ok (.iload_n 3, 1) := dq daX9_feed_0 (i := 20) rfl
theorem dX9_feed_33 : decode cX9_feed 33 = .ok (.ifCond .lt 38, 3) := dq daX9_feed_0 (i := 21) rfl
theorem dX9_feed_36 : decode cX9_feed 36 = .ok (.aload_n 0, 1) := dq daX9_feed_0 (i := 22) rfl
theorem dX9_feed_37 : decode cX9_feed 37 = .ok (.getfield 44, 3) := dq daX9_feed_0 (i := 23) rfl
theorem dX9_feed_40 : decode cX9_feed 40 = .ok (.aload_n 0, 1) := dq daX9_feed_0 (i := 24) rfl
theorem dX9_feed_41 : decode cX9_feed 41 = .ok (.getfield 258, 3) := dq daX9_feed_0 (i := 25) rfl
theorem dX9_feed_44 : decode cX9_feed 44 = .ok (.iload_n 1, 1) := dq daX9_feed_0 (i := 26) rfl
theorem dX9_feed_45 : decode cX9_feed 45 = .ok (.bipush 8, 2) := dq daX9_feed_0 (i := 27) rfl
theorem dX9_feed_47 : decode cX9_feed 47 = .ok (.iload_n 3, 1) := dq daX9_feed_0 (i := 28) rfl
theorem dX9_feed_48 : decode cX9_feed 48 = .ok (.imul, 1) := dq daX9_feed_0 (i := 29) rfl
theorem dX9_feed_49 : decode cX9_feed 49 = .ok (.iushr, 1) := dq daX9_feed_0 (i := 30) rfl
theorem dX9_feed_50 : decode cX9_feed 50 = .ok (.sipush 255, 3) := dq daX9_feed_0 (i := 31) rfl
theorem dX9_feed_53 : decode cX9_feed 53 = .ok (.iand, 1) := dq daX9_feed_0 (i := 32) rfl
theorem dX9_feed_54 : decode cX9_feed 54 = .ok (.iastore, 1) := dq daX9_feed_0 (i := 33) rfl
theorem dX9_feed_55 : decode cX9_feed 55 = .ok (.aload_n 0, 1) := dq daX9_feed_0 (i := 34) rfl
theorem dX9_feed_56 : decode cX9_feed 56 = .ok (.dup, 1) := dq daX9_feed_0 (i := 35) rfl
theorem dX9_feed_57 : decode cX9_feed 57 = .ok (.getfield 258, 3) := dq daX9_feed_0 (i := 36) rfl
theorem dX9_feed_60 : decode cX9_feed 60 = .ok (.iconst 1, 1) := dq daX9_feed_0 (i := 37) rfl
theorem dX9_feed_61 : decode cX9_feed 61 = .ok (.iadd, 1) := dq daX9_feed_0 (i := 38) rfl
theorem dX9_feed_62 : decode cX9_feed 62 = .ok (.putfield 258, 3) := dq daX9_feed_0 (i := 39) rfl
theorem daX9_feed_40 : dchk cX9_feed [(65, .iinc 3 (-1), 3), (68, .goto (-36), 3), (71, .aload_n 0, 1), (72, .getfield 258, 3), (75, .ireturn, 1)] = true := by decide +kernel
theorem dX9_feed_65 : decode cX9_feed 65 = .ok (.iinc 3 (-1), 3) := dq daX9_feed_40 (i := 0) rfl
theorem dX9_feed_68 : decode cX9_feed 68 = .ok (.goto (-36), 3) := dq daX9_feed_40 (i := 1) rfl
theorem dX9_feed_71 : decode cX9_feed 71 = .ok (.aload_n 0, 1) := dq daX9_feed_40 (i := 2) rfl
theorem dX9_feed_72 : decode cX9_feed 72 = .ok (.getfield 258, 3) := dq daX9_feed_40 (i := 3) rfl
theorem dX9_feed_75 : decode cX9_feed 75 = .ok (.ireturn, 1) := dq daX9_feed_40 (i := 4) rfl
theorem daX9_wipe_0 : dchk cX9_wipe [(0, .aload_n 0, 1), (1, .getfield 258, 3), (4, .istore_n 1, 1), (5, .aload_n 0, 1), (6, .iconst 0, 1), (7, .putfield 258, 3), (10, .iload_n 1, 1), (11, .ireturn, 1)] = true := by decide +kernel
theorem dX9_wipe_0 : decode cX9_wipe 0 = .ok (.aload_n 0, 1) := dq daX9_wipe_0 (i := 0) rfl
theorem dX9_wipe_1 : decode cX9_wipe 1 = .ok (.getfield 258, 3) := dq daX9_wipe_0 (i := 1) rfl
theorem dX9_wipe_4 : decode cX9_wipe 4 = .ok (.istore_n 1, 1) := dq daX9_wipe_0 (i := 2) rfl
theorem dX9_wipe_5 : decode cX9_wipe 5 = .ok (.aload_n 0, 1) := dq daX9_wipe_0 (i := 3) rfl
theorem dX9_wipe_6 : decode cX9_wipe 6 = .ok (.iconst 0, 1) := dq daX9_wipe_0 (i := 4) rfl
theorem dX9_wipe_7 : decode cX9_wipe 7 = .ok (.putfield 258, 3) := dq daX9_wipe_0 (i := 5) rfl
theorem dX9_wipe_10 : decode cX9_wipe 10 = .ok (.iload_n 1, 1) := dq daX9_wipe_0 (i := 6) rfl
theorem dX9_wipe_11 : decode cX9_wipe 11 = .ok (.ireturn, 1) := dq daX9_wipe_0 (i := 7) rfl
theorem daX9_here_0 : dchk cX9_here [(0, .aload_n 0, 1), (1, .getfield 261, 3), (4, .aload_n 0, 1), (5, .getfield 258, 3), (8, .if_icmp .ge 15, 3), (11, .aload_n 0, 1), (12, .getfield 44, 3), (15, .aload_n 0, 1), (16, .getfield 261, 3), (19, .iaload, 1), (20, .goto 4, 3), (23, .iconst (-1), 1), (24, .ireturn, 1)] = true := by decide +kernel
theorem dX9_here_0 : decode cX9_here 0 = .ok (.aload_n 0, 1) := dq daX9_here_0 (i := 0) rfl
theorem dX9_here_1 : decode cX9_here 1 = .ok (.getfield 261, 3) := dq daX9_here_0 (i := 1) rfl
theorem dX9_here_4 : decode cX9_here 4 = .ok (.aload_n 0, 1) := dq daX9_here_0 (i := 2) rfl
theorem dX9_here_5 : decode cX9_here 5 = .ok (.getfield 258, 3) := dq daX9_here_0 (i := 3) rfl
theorem dX9_here_8 : decode cX9_here 8 = .ok (.if_icmp .ge 15, 3) := dq daX9_here_0 (i := 4) rfl
theorem dX9_here_11 : decode cX9_here 11 = .ok (.aload_n 0, 1) := dq daX9_here_0 (i := 5) rfl
theorem dX9_here_12 : decode cX9_here 12 = .ok (.getfield 44, 3) := dq daX9_here_0 (i := 6) rfl
theorem dX9_here_15 : decode cX9_here 15 = .ok (.aload_n 0, 1) := dq daX9_here_0 (i := 7) rfl
theorem dX9_here_16 : decode cX9_here 16 = .ok (.getfield 261, 3) := dq daX9_here_0 (i := 8) rfl
theorem dX9_here_19 : decode cX9_here 19 = .ok (.iaload, 1) := dq daX9_here_0 (i := 9) rfl
theorem dX9_here_20 : decode cX9_here 20 = .ok (.goto 4, 3) := dq daX9_here_0 (i := 10) rfl
theorem dX9_here_23 : decode cX9_here 23 = .ok (.iconst (-1), 1) := dq daX9_here_0 (i := 11) rfl
theorem dX9_here_24 : decode cX9_here 24 = .ok (.ireturn, 1) := dq daX9_here_0 (i := 12) rfl
theorem daX9_isFigure_0 : dchk cX9_isFigure [(0, .aload_n 0, 1), (1, .invokevirtual 264, 3), (4, .i2l, 1), (5, .ldc2_w 267, 3), (8, .ldc2_w 269, 3), (11, .invokestatic 110, 3), (14, .ireturn, 1)] = true := by decide +kernel
theorem dX9_isFigure_0 : decode cX9_isFigure 0 = .ok (.aload_n 0, 1) := dq daX9_isFigure_0 (i := 0) rfl
theorem dX9_isFigure_1 : decode cX9_isFigure 1 = .ok (.invokevirtual 264, 3) := dq daX9_isFigure_0 (i := 1) rfl
theorem dX9_isFigure_4 : decode cX9_isFigure 4 = .ok (.i2l, 1) := dq daX9_isFigure_0 (i := 2) rfl
theorem dX9_isFigure_5 : decode cX9_isFigure 5 = .ok (.ldc2_w 267, 3) := dq daX9_isFigure_0 (i := 3) rfl
theorem dX9_isFigure_8 : decode cX9_isFigure 8 = .ok (.ldc2_w 269, 3) := dq daX9_isFigure_0 (i := 4) rfl
theorem dX9_isFigure_11 : decode cX9_isFigure 11 = .ok (.invokestatic 110, 3) := dq daX9_isFigure_0 (i := 5) rfl
theorem dX9_isFigure_14 : decode cX9_isFigure 14 = .ok (.ireturn, 1) := dq daX9_isFigure_0 (i := 6) rfl
theorem daX9_figure_0 : dchk cX9_figure [(0, .aload_n 0, 1), (1, .getfield 271, 3), (4, .ifCond .ne 10, 3), (7, .aload_n 0, 1), (8, .invokevirtual 275, 3), (11, .ifCond .ne 10, 3), (14, .aload_n 0, 1), (15, .iconst 1, 1), (16, .putfield 271, 3), (19, .iconst 0, 1), (20, .ireturn, 1), (21, .aload_n 0, 1), (22, .dup, 1), (23, .getfield 261, 3), (26, .iconst 1, 1), (27, .iadd, 1), (28, .putfield 261, 3), (31, .aload_n 0, 1), (32, .getfield 44, 3), (35, .aload_n 0, 1), (36, .getfield 261, 3), (39, .iconst 1, 1), (40, .isub, 1), (41, .iaload, 1), (42, .bipush 48, 2), (44, .isub, 1), (45, .ireturn, 1)] = true := by decide +kernel
theorem dX9_figure_0 : decode cX9_figure 0 = .ok (.aload_n 0, 1) := dq daX9_figure_0 (i := 0) rfl
theorem dX9_figure_1 : decode cX9_figure 1 = .ok (.getfield 271, 3) := dq daX9_figure_0 (i := 1) rfl
theorem dX9_figure_4 : decode cX9_figure 4 = .ok (.ifCond .ne 10, 3) := dq daX9_figure_0 (i := 2) rfl
theorem dX9_figure_7 : decode cX9_figure 7 = .ok (.aload_n 0, 1) := dq daX9_figure_0 (i := 3) rfl
theorem dX9_figure_8 : decode cX9_figure 8 = .ok (.invokevirtual 275, 3) := dq daX9_figure_0 (i := 4) rfl
theorem dX9_figure_11 : decode cX9_figure 11 = .ok (.ifCond .ne 10, 3) := dq daX9_figure_0 (i := 5) rfl
theorem dX9_figure_14 : decode cX9_figure 14 = .ok (.aload_n 0, 1) := dq daX9_figure_0 (i := 6) rfl
theorem dX9_figure_15 : decode cX9_figure 15 = .ok (.iconst 1, 1) := dq daX9_figure_0 (i := 7) rfl
theorem dX9_figure_16 : decode cX9_figure 16 = .ok (.putfield 271, 3) := dq daX9_figure_0 (i := 8) rfl
theorem dX9_figure_19 : decode cX9_figure 19 = .ok (.iconst 0, 1) := dq daX9_figure_0 (i := 9) rfl
theorem dX9_figure_20 : decode cX9_figure 20 = .ok (.ireturn, 1) := dq daX9_figure_0 (i := 10) rfl
theorem dX9_figure_21 : decode cX9_figure 21 = .ok (.aload_n 0, 1) := dq daX9_figure_0 (i := 11) rfl
theorem dX9_figure_22 : decode cX9_figure 22 = .ok (.dup, 1) := dq daX9_figure_0 (i := 12) rfl
theorem dX9_figure_23 : decode cX9_figure 23 = .ok (.getfield 261, 3) := dq daX9_figure_0 (i := 13) rfl
theorem dX9_figure_26 : decode cX9_figure 26 = .ok (.iconst 1, 1) := dq daX9_figure_0 (i := 14) rfl
theorem dX9_figure_27 : decode cX9_figure 27 = .ok (.iadd, 1) := dq daX9_figure_0 (i := 15) rfl
theorem dX9_figure_28 : decode cX9_figure 28 = .ok (.putfield 261, 3) := dq daX9_figure_0 (i := 16) rfl
theorem dX9_figure_31 : decode cX9_figure 31 = .ok (.aload_n 0, 1) := dq daX9_figure_0 (i := 17) rfl
theorem dX9_figure_32 : decode cX9_figure 32 = .ok (.getfield 44, 3) := dq daX9_figure_0 (i := 18) rfl
theorem dX9_figure_35 : decode cX9_figure 35 = .ok (.aload_n 0, 1) := dq daX9_figure_0 (i := 19) rfl
theorem dX9_figure_36 : decode cX9_figure 36 = .ok (.getfield 261, 3) := dq daX9_figure_0 (i := 20) rfl
theorem dX9_figure_39 : decode cX9_figure 39 = .ok (.iconst 1, 1) := dq daX9_figure_0 (i := 21) rfl
theorem dX9_figure_40 : decode cX9_figure 40 = .ok (.isub, 1) := dq daX9_figure_0 (i := 22) rfl
theorem dX9_figure_41 : decode cX9_figure 41 = .ok (.iaload, 1) := dq daX9_figure_0 (i := 23) rfl
theorem dX9_figure_42 : decode cX9_figure 42 = .ok (.bipush 48, 2) := dq daX9_figure_0 (i := 24) rfl
theorem dX9_figure_44 : decode cX9_figure 44 = .ok (.isub, 1) := dq daX9_figure_0 (i := 25) rfl
theorem dX9_figure_45 : decode cX9_figure 45 = .ok (.ireturn, 1) := dq daX9_figure_0 (i := 26) rfl
theorem daX9_must_0 : dchk cX9_must [(0, .aload_n 0, 1), (1, .aload_n 0, 1), (2, .getfield 271, 3), (5, .ifCond .ne 11, 3), (8, .aload_n 0, 1), (9, .invokevirtual 264, 3), (12, .iload_n 1, 1), (13, .if_icmp .eq 7, 3), (16, .iconst 1, 1), (17, .goto 4, 3), (20, .iconst 0, 1), (21, .putfield 271, 3), (24, .aload_n 0, 1), (25, .dup, 1), (26, .getfield 261, 3), (29, .aload_n 0, 1), (30, .getfield 271, 3), (33, .ifCond .eq 7, 3), (36, .iconst 0, 1), (37, .goto 4, 3), (40, .iconst 1, 1), (41, .iadd, 1), (42, .putfield 261, 3), (45, .return_, 1)] = true := by decide +kernel
theorem dX9_must_0 : decode cX9_must 0 = .ok (.aload_n 0, 1) := dq daX9_must_0 (i := 0) rfl
theorem dX9_must_1 : decode cX9_must 1 = .ok (.aload_n 0, 1) := dq daX9_must_0 (i := 1) rfl
theorem dX9_must_2 : decode cX9_must 2 = .ok (.getfield 271, 3) := dq daX9_must_0 (i := 2) rfl
theorem dX9_must_5 : decode cX9_must 5 = .ok (.ifCond .ne 11, 3) := dq daX9_must_0 (i := 3) rfl
theorem dX9_must_8 : decode cX9_must 8 = .ok (.aload_n 0, 1) := dq daX9_must_0 (i := 4) rfl
theorem dX9_must_9 : decode cX9_must 9 = .ok (.invokevirtual 264, 3) := dq daX9_must_0 (i := 5) rfl
theorem dX9_must_12 : decode cX9_must 12 = .ok (.iload_n 1, 1) := dq daX9_must_0 (i := 6) rfl
theorem dX9_must_13 : decode cX9_must 13 = .ok (.if_icmp .eq 7, 3) := dq daX9_must_0 (i := 7) rfl
theorem dX9_must_16 : decode cX9_must 16 = .ok (.iconst 1, 1) := dq daX9_must_0 (i := 8) rfl
theorem dX9_must_17 : decode cX9_must 17 = .ok (.goto 4, 3) := dq daX9_must_0 (i := 9) rfl
theorem dX9_must_20 : decode cX9_must 20 = .ok (.iconst 0, 1) := dq daX9_must_0 (i := 10) rfl
theorem dX9_must_21 : decode cX9_must 21 = .ok (.putfield 271, 3) := dq daX9_must_0 (i := 11) rfl
theorem dX9_must_24 : decode cX9_must 24 = .ok (.aload_n 0, 1) := dq daX9_must_0 (i := 12) rfl
theorem dX9_must_25 : decode cX9_must 25 = .ok (.dup, 1) := dq daX9_must_0 (i := 13) rfl
theorem dX9_must_26 : decode cX9_must 26 = .ok (.getfield 261, 3) := dq daX9_must_0 (i := 14) rfl
theorem dX9_must_29 : decode cX9_must 29 = .ok (.aload_n 0, 1) := dq daX9_must_0 (i := 15) rfl
theorem dX9_must_30 : decode cX9_must 30 = .ok (.getfield 271, 3) := dq daX9_must_0 (i := 16) rfl
theorem dX9_must_33 : decode cX9_must 33 = .ok (.ifCond .eq 7, 3) := dq daX9_must_0 (i := 17) rfl
theorem dX9_must_36 : decode cX9_must 36 = .ok (.iconst 0, 1) := dq daX9_must_0 (i := 18) rfl
theorem dX9_must_37 : decode cX9_must 37 = .ok (.goto 4, 3) := dq daX9_must_0 (i := 19) rfl
theorem dX9_must_40 : decode cX9_must 40 = .ok (.iconst 1, 1) := dq daX9_must_0 (i := 20) rfl
theorem dX9_must_41 : decode cX9_must 41 = .ok (.iadd, 1) := dq daX9_must_0 (i := 21) rfl
theorem dX9_must_42 : decode cX9_must 42 = .ok (.putfield 261, 3) := dq daX9_must_0 (i := 22) rfl
theorem dX9_must_45 : decode cX9_must 45 = .ok (.return_, 1) := dq daX9_must_0 (i := 23) rfl
theorem daX9_markHere_0 : dchk cX9_markHere [(0, .aload_n 0, 1), (1, .getfield 50, 3), (4, .aload_n 0, 1), (5, .getfield 279, 3), (8, .aload_n 0, 1), (9, .getfield 261, 3), (12, .iastore, 1), (13, .aload_n 0, 1), (14, .invokevirtual 282, 3), (17, .istore_n 1, 1), (18, .aload_n 0, 1), (19, .getfield 271, 3), (22, .ifCond .ne 20, 3), (25, .aload_n 0, 1), (26, .invokevirtual 275, 3), (29, .ifCond .eq 13, 3), (32, .bipush 10, 2), (34, .iload_n 1, 1), (35, .imul, 1), (36, .aload_n 0, 1), (37, .invokevirtual 282, 3), (40, .iadd, 1), (41, .istore_n 1, 1), (42, .aload_n 0, 1), (43, .getfield 47, 3), (46, .aload_n 0, 1), (47, .getfield 279, 3), (50, .iload_n 1, 1), (51, .iastore, 1), (52, .aload_n 0, 1), (53, .dup, 1), (54, .getfield 279, 3), (57, .iconst 1, 1), (58, .iadd, 1), (59, .putfield 279, 3), (62, .return_, 1)] = true := by decide +kernel
theorem dX9_markHere_0 : decode cX9_markHere 0 = .ok (.aload_n 0, 1) := dq daX9_markHere_0 (i := 0) rfl
theorem dX9_markHere_1 : decode cX9_markHere 1 = .ok (.getfield 50, 3) := dq daX9_markHere_0 (i := 1) rfl
theorem dX9_markHere_4 : decode cX9_markHere 4 = .ok (.aload_n 0, 1) := dq daX9_markHere_0 (i := 2) rfl
theorem dX9_markHere_5 : decode cX9_markHere 5 = .ok (.getfield 279, 3) := dq daX9_markHere_0 (i := 3) rfl
theorem dX9_markHere_8 : decode cX9_markHere 8 = .ok (.aload_n 0, 1) := dq daX9_markHere_0 (i := 4) rfl
theorem dX9_markHere_9 : decode cX9_markHere 9 = .ok (.getfield 261, 3) := dq daX9_markHere_0 (i := 5) rfl
theorem dX9_markHere_12 : decode cX9_markHere 12 = .ok (.iastore, 1) := dq daX9_markHere_0 (i := 6) rfl
theorem dX9_markHere_13 : decode cX9_markHere 13 = .ok (.aload_n 0, 1) := dq daX9_markHere_0 (i := 7) rfl
theorem dX9_markHere_14 : decode cX9_markHere 14 = .ok (.invokevirtual 282, 3) := dq daX9_markHere_0 (i := 8) rfl
theorem dX9_markHere_17 : decode cX9_markHere 17 = .ok (.istore_n 1, 1) := dq daX9_markHere_0 (i := 9) rfl
theorem dX9_markHere_18 : decode cX9_markHere 18 = .ok (.aload_n 0, 1) := dq daX9_markHere_0 (i := 10) rfl
theorem dX9_markHere_19 : decode cX9_markHere 19 = .ok (.getfield 271, 3) := dq daX9_markHere_0 (i := 11) rfl
theorem dX9_markHere_22 : decode cX9_markHere 22 = .ok (.ifCond .ne 20, 3) := dq daX9_markHere_0 (i := 12) rfl
theorem dX9_markHere_25 : decode cX9_markHere 25 = .ok (.aload_n 0, 1) := dq daX9_markHere_0 (i := 13) rfl
theorem dX9_markHere_26 : decode cX9_markHere 26 = .ok (.invokevirtual 275, 3) := dq daX9_markHere_0 (i := 14) rfl
theorem dX9_markHere_29 : decode cX9_markHere 29 = .ok (.ifCond .eq 13, 3) := dq daX9_markHere_0 (i := 15) rfl
theorem dX9_markHere_32 : decode cX9_markHere 32 = .ok (.bipush 10, 2) := dq daX9_markHere_0 (i := 16) rfl
theorem dX9_markHere_34 : decode cX9_markHere 34 = .ok (.iload_n 1, 1) := dq daX9_markHere_0 (i := 17) rfl
theorem dX9_markHere_35 : decode cX9_markHere 35 = .ok (.imul, 1) := dq daX9_markHere_0 (i := 18) rfl
theorem dX9_markHere_36 : decode cX9_markHere 36 = .ok (.aload_n 0, 1) := dq daX9_markHere_0 (i := 19) rfl
theorem dX9_markHere_37 : decode cX9_markHere 37 = .ok (.invokevirtual 282, 3) := dq daX9_markHere_0 (i := 20) rfl
theorem dX9_markHere_40 : decode cX9_markHere 40 = .ok (.iadd, 1) := dq daX9_markHere_0 (i := 21) rfl
theorem dX9_markHere_41 : decode cX9_markHere 41 = .ok (.istore_n 1, 1) := dq daX9_markHere_0 (i := 22) rfl
theorem dX9_markHere_42 : decode cX9_markHere 42 = .ok (.aload_n 0, 1) := dq daX9_markHere_0 (i := 23) rfl
theorem dX9_markHere_43 : decode cX9_markHere 43 = .ok (.getfield 47, 3) := dq daX9_markHere_0 (i := 24) rfl
theorem dX9_markHere_46 : decode cX9_markHere 46 = .ok (.aload_n 0, 1) := dq daX9_markHere_0 (i := 25) rfl
theorem dX9_markHere_47 : decode cX9_markHere 47 = .ok (.getfield 279, 3) := dq daX9_markHere_0 (i := 26) rfl
theorem dX9_markHere_50 : decode cX9_markHere 50 = .ok (.iload_n 1, 1) := dq daX9_markHere_0 (i := 27) rfl
theorem dX9_markHere_51 : decode cX9_markHere 51 = .ok (.iastore, 1) := dq daX9_markHere_0 (i := 28) rfl
theorem dX9_markHere_52 : decode cX9_markHere 52 = .ok (.aload_n 0, 1) := dq daX9_markHere_0 (i := 29) rfl
theorem dX9_markHere_53 : decode cX9_markHere 53 = .ok (.dup, 1) := dq daX9_markHere_0 (i := 30) rfl
theorem dX9_markHere_54 : decode cX9_markHere 54 = .ok (.getfield 279, 3) := dq daX9_markHere_0 (i := 31) rfl
theorem dX9_markHere_57 : decode cX9_markHere 57 = .ok (.iconst 1, 1) := dq daX9_markHere_0 (i := 32) rfl
theorem dX9_markHere_58 : decode cX9_markHere 58 = .ok (.iadd, 1) := dq daX9_markHere_0 (i := 33) rfl
theorem dX9_markHere_59 : decode cX9_markHere 59 = .ok (.putfield 279, 3) := dq daX9_markHere_0 (i := 34) rfl
theorem dX9_markHere_62 : decode cX9_markHere 62 = .ok (.return_, 1) := dq daX9_markHere_0 (i := 35) rfl
theorem daX9_splitHere_0 : dchk cX9_splitHere [(0, .aload_n 0, 1), (1, .getfield 56, 3), (4, .aload_n 0, 1), (5, .getfield 285, 3), (8, .aload_n 0, 1), (9, .getfield 261, 3), (12, .iastore, 1), (13, .iconst 0, 1), (14, .istore_n 1, 1), (15, .iconst (-1), 1), (16, .istore_n 2, 1), (17, .iconst 0, 1), (18, .istore_n 3, 1), (19, .iload_n 3, 1), (20, .iconst 4, 1), (21, .if_icmp .ge 65, 3), (24, .aload_n 0, 1), (25, .getfield 271, 3), (28, .ifCond .ne 58, 3), (31, .iload_n 3, 1), (32, .iconst 1, 1), (33, .if_icmp .le 13, 3), (36, .aload_n 0, 1), (37, .invokevirtual 275, 3), (40, .ifCond .ne 6, 3), (43, .goto 43, 3), (46, .aload_n 0, 1), (47, .invokevirtual 275, 3), (50, .ifCond .eq 19, 3), (53, .aload_n 0, 1), (54, .invokevirtual 264, 3), (57, .bipush 48, 2), (59, .isub, 1), (60, .iload_n 2, 1), (61, .if_icmp .gt 8, 3), (64, .aload_n 0, 1), (65, .iconst 1, 1), (66, .putfield 271, 3), (69, .aload_n 0, 1), (70, .invokevirtual 282, 3)] = true := by decide +kernel
theorem dX9_splitHere_0 : decode cX9_splitHere 0 = .ok (.aload_n 0, 1) := dq daX9_splitHere_0 (i := 0) rfl
theorem dX9_splitHere_1 : decode cX9_splitHere 1 = .ok (.getfield 56, 3) := dq daX9_splitHere_0 (i := 1) rfl
theorem dX9_splitHere_4 : decode cX9_splitHere 4 = .ok (.aload_n 0, 1) := dq daX9_splitHere_0 (i := 2) rfl
theorem dX9_splitHere_5 : decode cX9_splitHere 5 = .ok (.getfield 285, 3) := dq daX9_splitHere_0 (i := 3) rfl
theorem dX9_splitHere_8 : decode cX9_splitHere 8 = .ok (.aload_n 0, 1) := dq daX9_splitHere_0 (i := 4) rfl
theorem dX9_splitHere_9 : decode cX9_splitHere 9 = .ok (.getfield 261, 3) := dq daX9_splitHere_0 (i := 5) rfl
theorem dX9_splitHere_12 : decode cX9_splitHere 12 = .ok (.iastore, 1) := dq daX9_splitHere_0 (i := 6) rfl
theorem dX9_splitHere_13 : decode cX9_splitHere 13 = .ok (.iconst 0, 1) := dq daX9_splitHere_0 (i := 7) rfl
theorem dX9_splitHere_14 : decode cX9_splitHere 14 = .ok (.istore_n 1, 1) := dq daX9_splitHere_0 (i := 8) rfl
theorem dX9_splitHere_15 : decode cX9_splitHere 15 = .ok (.iconst (-1), 1) := dq daX9_splitHere_0 (i := 9) rfl
theorem dX9_splitHere_16 : decode cX9_splitHere 16 = .ok (.istore_n 2, 1) := dq daX9_splitHere_0 (i := 10) rfl
theorem dX9_splitHere_17 : decode cX9_splitHere 17 = .ok (.iconst 0, 1) := dq daX9_splitHere_0 (i := 11) rfl
theorem dX9_splitHere_18 : decode cX9_splitHere 18 = .ok (.istore_n 3, 1) := dq daX9_splitHere_0 (i := 12) rfl
theorem dX9_splitHere_19 : decode cX9_splitHere 19 = .ok (.iload_n 3, 1) := dq daX9_splitHere_0 (i := 13) rfl
theorem dX9_splitHere_20 : decode cX9_splitHere 20 = .ok (.iconst 4, 1) := dq daX9_splitHere_0 (i := 14) rfl
theorem dX9_splitHere_21 : decode cX9_splitHere 21 = .ok (.if_icmp .ge 65, 3) := dq daX9_splitHere_0 (i := 15) rfl
theorem dX9_splitHere_24 : decode cX9_splitHere 24 = .ok (.aload_n 0, 1) := dq daX9_splitHere_0 (i := 16) rfl
theorem dX9_splitHere_25 : decode cX9_splitHere 25 = .ok (.getfield 271, 3) := dq daX9_splitHere_0 (i := 17) rfl
theorem dX9_splitHere_28 : decode cX9_splitHere 28 = .ok (.ifCond .ne 58, 3) := dq daX9_splitHere_0 (i := 18) rfl
theorem dX9_splitHere_31 : decode cX9_splitHere 31 = .ok (.iload_n 3, 1) := dq daX9_splitHere_0 (i := 19) rfl
theorem dX9_splitHere_32 : decode cX9_splitHere 32 = .ok (.iconst 1, 1) := dq daX9_splitHere_0 (i := 20) rfl
theorem dX9_splitHere_33 : decode cX9_splitHere 33 = .ok (.if_icmp .le 13, 3) := dq daX9_splitHere_0 (i := 21) rfl
theorem dX9_splitHere_36 : decode cX9_splitHere 36 = .ok (.aload_n 0, 1) := dq daX9_splitHere_0 (i := 22) rfl
theorem dX9_splitHere_37 : decode cX9_splitHere 37 = .ok (.invokevirtual 275, 3) := dq daX9_splitHere_0 (i := 23) rfl
theorem dX9_splitHere_40 : decode cX9_splitHere 40 = .ok (.ifCond .ne 6, 3) := dq daX9_splitHere_0 (i := 24) rfl
theorem dX9_splitHere_43 : decode cX9_splitHere 43 = .ok (.goto 43, 3) := dq daX9_splitHere_0 (i := 25) rfl
theorem dX9_splitHere_46 : decode cX9_splitHere 46 = .ok (.aload_n 0, 1) := dq daX9_splitHere_0 (i := 26) rfl
theorem dX9_splitHere_47 : decode cX9_splitHere 47 = .ok (.invokevirtual 275, 3) := dq daX9_splitHere_0 (i := 27) rfl
theorem dX9_splitHere_50 : decode cX9_splitHere 50 = .ok (.ifCond .eq 19, 3) := dq daX9_splitHere_0 (i := 28) rfl
theorem dX9_splitHere_53 : decode cX9_splitHere 53 = .ok (.aload_n 0, 1) := dq daX9_splitHere_0 (i := 29) rfl
theorem dX9_splitHere_54 : decode cX9_splitHere 54 = .ok (.invokevirtual 264, 3) := dq daX9_splitHere_0 (i := 30) rfl
theorem dX9_splitHere_57 : decode cX9_splitHere 57 = .ok (.bipush 48, 2) := dq daX9_splitHere_0 (i := 31) rfl
theorem dX9_splitHere_59 : decode cX9_splitHere 59 = .ok (.isub, 1) := dq daX9_splitHere_0 (i := 32) rfl
theorem dX9_splitHere_60 : decode cX9_splitHere 60 = .ok (.iload_n 2, 1) := dq daX9_splitHere_0 (i := 33) rfl
theorem dX9_splitHere_61 : decode cX9_splitHere 61 = .ok (.if_icmp .gt 8, 3) := dq daX9_splitHere_0 (i := 34) rfl
theorem dX9_splitHere_64 : decode cX9_splitHere 64 = .ok (.aload_n 0, 1) := dq daX9_splitHere_0 (i := 35) rfl
theorem dX9_splitHere_65 : decode cX9_splitHere 65 = .ok (.iconst 1, 1) := dq daX9_splitHere_0 (i := 36) rfl
theorem dX9_splitHere_66 : decode cX9_splitHere 66 = .ok (.putfield 271, 3) := dq daX9_splitHere_0 (i := 37) rfl
theorem dX9_splitHere_69 : decode cX9_splitHere 69 = .ok (.aload_n 0, 1) := dq daX9_splitHere_0 (i := 38) rfl
theorem dX9_splitHere_70 : decode cX9_splitHere 70 = .ok (.invokevirtual 282, 3) := dq daX9_splitHere_0 (i := 39) rfl
theorem daX9_splitHere_40 : dchk cX9_splitHere [(73, .istore_n 2, 1), (74, .iload_n 1, 1), (75, .iconst 1, 1), (76, .iload_n 2, 1), (77, .ishl, 1), (78, .ior, 1), (79, .istore_n 1, 1), (80, .iinc 3 1, 3), (83, .goto (-64), 3), (86, .aload_n 0, 1), (87, .getfield 53, 3), (90, .aload_n 0, 1), (91, .getfield 285, 3), (94, .iload_n 1, 1), (95, .iastore, 1), (96, .aload_n 0, 1), (97, .dup, 1), (98, .getfield 285, 3), (101, .iconst 1, 1), (102, .iadd, 1), (103, .putfield 285, 3), (106, .return_, 1)] = true := by decide +kernel
theorem dX9_splitHere_73 : decode cX9_splitHere 73 = .ok (.istore_n 2, 1) := dq daX9_splitHere_40 (i := 0) rfl
theorem dX9_splitHere_74 : decode cX9_splitHere 74 = .ok (.iload_n 1, 1) := dq daX9_splitHere_40 (i := 1) rfl
theorem dX9_splitHere_75 : decode cX9_splitHere 75 = .ok (.iconst 1, 1) := dq daX9_splitHere_40 (i := 2) rfl
theorem dX9_splitHere_76 : decode cX9_splitHere 76 = .ok (.iload_n 2, 1) := dq daX9_splitHere_40 (i := 3) rfl
theorem dX9_splitHere_77 : decode cX9_splitHere 77 = .ok (.ishl, 1) := dq daX9_splitHere_40 (i := 4) rfl
theorem dX9_splitHere_78 : decode cX9_splitHere 78 = .ok (.ior, 1) := dq daX9_splitHere_40 (i := 5) rfl
theorem dX9_splitHere_79 : decode cX9_splitHere 79 = .ok (.istore_n 1, 1) := dq daX9_splitHere_40 (i := 6) rfl
theorem dX9_splitHere_80 : decode cX9_splitHere 80 = .ok (.iinc 3 1, 3) := dq daX9_splitHere_40 (i := 7) rfl
theorem dX9_splitHere_83 : decode cX9_splitHere 83 = .ok (.goto (-64), 3) := dq daX9_splitHere_40 (i := 8) rfl
theorem dX9_splitHere_86 : decode cX9_splitHere 86 = .ok (.aload_n 0, 1) := dq daX9_splitHere_40 (i := 9) rfl
theorem dX9_splitHere_87 : decode cX9_splitHere 87 = .ok (.getfield 53, 3) := dq daX9_splitHere_40 (i := 10) rfl
theorem dX9_splitHere_90 : decode cX9_splitHere 90 = .ok (.aload_n 0, 1) := dq daX9_splitHere_40 (i := 11) rfl
theorem dX9_splitHere_91 : decode cX9_splitHere 91 = .ok (.getfield 285, 3) := dq daX9_splitHere_40 (i := 12) rfl
theorem dX9_splitHere_94 : decode cX9_splitHere 94 = .ok (.iload_n 1, 1) := dq daX9_splitHere_40 (i := 13) rfl
theorem dX9_splitHere_95 : decode cX9_splitHere 95 = .ok (.iastore, 1) := dq daX9_splitHere_40 (i := 14) rfl
theorem dX9_splitHere_96 : decode cX9_splitHere 96 = .ok (.aload_n 0, 1) := dq daX9_splitHere_40 (i := 15) rfl
theorem dX9_splitHere_97 : decode cX9_splitHere 97 = .ok (.dup, 1) := dq daX9_splitHere_40 (i := 16) rfl
theorem dX9_splitHere_98 : decode cX9_splitHere 98 = .ok (.getfield 285, 3) := dq daX9_splitHere_40 (i := 17) rfl
theorem dX9_splitHere_101 : decode cX9_splitHere 101 = .ok (.iconst 1, 1) := dq daX9_splitHere_40 (i := 18) rfl
theorem dX9_splitHere_102 : decode cX9_splitHere 102 = .ok (.iadd, 1) := dq daX9_splitHere_40 (i := 19) rfl
theorem dX9_splitHere_103 : decode cX9_splitHere 103 = .ok (.putfield 285, 3) := dq daX9_splitHere_40 (i := 20) rfl
theorem dX9_splitHere_106 : decode cX9_splitHere 106 = .ok (.return_, 1) := dq daX9_splitHere_40 (i := 21) rfl
theorem daX9_form_0 : dchk cX9_form [(0, .aload_n 0, 1), (1, .iconst 0, 1), (2, .putfield 261, 3), (5, .aload_n 0, 1), (6, .iconst 0, 1), (7, .putfield 271, 3), (10, .aload_n 0, 1), (11, .iconst 0, 1), (12, .putfield 279, 3), (15, .aload_n 0, 1), (16, .iconst 0, 1), (17, .putfield 285, 3), (20, .aload_n 0, 1), (21, .iconst 0, 1), (22, .putfield 288, 3), (25, .aload_n 0, 1), (26, .aload_n 0, 1), (27, .invokevirtual 282, 3), (30, .putfield 291, 3), (33, .aload_n 0, 1), (34, .bipush 58, 2), (36, .invokevirtual 294, 3), (39, .aload_n 0, 1), (40, .getfield 271, 3), (43, .ifCond .ne 56, 3), (46, .aload_n 0, 1), (47, .invokevirtual 275, 3), (50, .ifCond .eq 49, 3), (53, .aload_n 0, 1), (54, .invokevirtual 297, 3), (57, .aload_n 0, 1), (58, .getfield 271, 3), (61, .ifCond .ne 38, 3), (64, .aload_n 0, 1), (65, .invokevirtual 264, 3), (68, .bipush 44, 2), (70, .if_icmp .ne 29, 3), (73, .aload_n 0, 1), (74, .getfield 279, 3), (77, .bipush 8, 2)] = true := by decide +kernel
theorem dX9_form_0 : decode cX9_form 0 = .ok (.aload_n 0, 1) := dq daX9_form_0 (i := 0) rfl
theorem dX9_form_1 : decode cX9_form 1 = .ok (.iconst 0, 1) := dq daX9_form_0 (i := 1) rfl
theorem dX9_form_2 : decode cX9_form 2 = .ok (.putfield 261, 3) := dq daX9_form_0 (i := 2) rfl
theorem dX9_form_5 : decode cX9_form 5 = .ok (.aload_n 0, 1) := dq daX9_form_0 (i := 3) rfl
theorem dX9_form_6 : decode cX9_form 6 = .ok (.iconst 0, 1) := dq daX9_form_0 (i := 4) rfl
theorem dX9_form_7 : decode cX9_form 7 = .ok (.putfield 271, 3) := dq daX9_form_0 (i := 5) rfl
theorem dX9_form_10 : decode cX9_form 10 = .ok (.aload_n 0, 1) := dq daX9_form_0 (i := 6) rfl
theorem dX9_form_11 : decode cX9_form 11 = .ok (.iconst 0, 1) := dq daX9_form_0 (i := 7) rfl
theorem dX9_form_12 : decode cX9_form 12 = .ok (.putfield 279, 3) := dq daX9_form_0 (i := 8) rfl
theorem dX9_form_15 : decode cX9_form 15 = .ok (.aload_n 0, 1) := dq daX9_form_0 (i := 9) rfl
theorem dX9_form_16 : decode cX9_form 16 = .ok (.iconst 0, 1) := dq daX9_form_0 (i := 10) rfl
theorem dX9_form_17 : decode cX9_form 17 = .ok (.putfield 285, 3) := dq daX9_form_0 (i := 11) rfl
theorem dX9_form_20 : decode cX9_form 20 = .ok (.aload_n 0, 1) := dq daX9_form_0 (i := 12) rfl
theorem dX9_form_21 : decode cX9_form 21 = .ok (.iconst 0, 1) := dq daX9_form_0 (i := 13) rfl
theorem dX9_form_22 : decode cX9_form 22 = .ok (.putfield 288, 3) := dq daX9_form_0 (i := 14) rfl
theorem dX9_form_25 : decode cX9_form 25 = .ok (.aload_n 0, 1) := dq daX9_form_0 (i := 15) rfl
theorem dX9_form_26 : decode cX9_form 26 = .ok (.aload_n 0, 1) := dq daX9_form_0 (i := 16) rfl
theorem dX9_form_27 : decode cX9_form 27 = .ok (.invokevirtual 282, 3) := dq daX9_form_0 (i := 17) rfl
theorem dX9_form_30 : decode cX9_form 30 = .ok (.putfield 291, 3) := dq daX9_form_0 (i := 18) rfl
theorem dX9_form_33 : decode cX9_form 33 = .ok (.aload_n 0, 1) := dq daX9_form_0 (i := 19) rfl
theorem dX9_form_34 : decode cX9_form 34 = .ok (.bipush 58, 2) := dq daX9_form_0 (i := 20) rfl
theorem dX9_form_36 : decode cX9_form 36 = .ok (.invokevirtual 294, 3) := dq daX9_form_0 (i := 21) rfl
theorem dX9_form_39 : decode cX9_form 39 = .ok (.aload_n 0, 1) := dq daX9_form_0 (i := 22) rfl
theorem dX9_form_40 : decode cX9_form 40 = .ok (.getfield 271, 3) := dq daX9_form_0 (i := 23) rfl
theorem dX9_form_43 : decode cX9_form 43 = .ok (.ifCond .ne 56, 3) := dq daX9_form_0 (i := 24) rfl
theorem dX9_form_46 : decode cX9_form 46 = .ok (.aload_n 0, 1) := dq daX9_form_0 (i := 25) rfl
theorem dX9_form_47 : decode cX9_form 47 = .ok (.invokevirtual 275, 3) := dq daX9_form_0 (i := 26) rfl
theorem dX9_form_50 : decode cX9_form 50 = .ok (.ifCond .eq 49, 3) := dq daX9_form_0 (i := 27) rfl
theorem dX9_form_53 : decode cX9_form 53 = .ok (.aload_n 0, 1) := dq daX9_form_0 (i := 28) rfl
theorem dX9_form_54 : decode cX9_form 54 = .ok (.invokevirtual 297, 3) := dq daX9_form_0 (i := 29) rfl
theorem dX9_form_57 : decode cX9_form 57 = .ok (.aload_n 0, 1) := dq daX9_form_0 (i := 30) rfl
theorem dX9_form_58 : decode cX9_form 58 = .ok (.getfield 271, 3) := dq daX9_form_0 (i := 31) rfl
theorem dX9_form_61 : decode cX9_form 61 = .ok (.ifCond .ne 38, 3) := dq daX9_form_0 (i := 32) rfl
theorem dX9_form_64 : decode cX9_form 64 = .ok (.aload_n 0, 1) := dq daX9_form_0 (i := 33) rfl
theorem dX9_form_65 : decode cX9_form 65 = .ok (.invokevirtual 264, 3) := dq daX9_form_0 (i := 34) rfl
theorem dX9_form_68 : decode cX9_form 68 = .ok (.bipush 44, 2) := dq daX9_form_0 (i := 35) rfl
theorem dX9_form_70 : decode cX9_form 70 = .ok (.if_icmp .ne 29, 3) := dq daX9_form_0 (i := 36) rfl
theorem dX9_form_73 : decode cX9_form 73 = .ok (.aload_n 0, 1) := dq daX9_form_0 (i := 37) rfl
theorem dX9_form_74 : decode cX9_form 74 = .ok (.getfield 279, 3) := dq daX9_form_0 (i := 38) rfl
theorem dX9_form_77 : decode cX9_form 77 = .ok (.bipush 8, 2) := dq daX9_form_0 (i := 39) rfl
theorem daX9_form_40 : dchk cX9_form [(79, .if_icmp .ge 20, 3), (82, .aload_n 0, 1), (83, .dup, 1), (84, .getfield 261, 3), (87, .iconst 1, 1), (88, .iadd, 1), (89, .putfield 261, 3), (92, .aload_n 0, 1), (93, .invokevirtual 297, 3), (96, .goto (-39), 3), (99, .aload_n 0, 1), (100, .getfield 271, 3), (103, .ifCond .ne 84, 3), (106, .aload_n 0, 1), (107, .invokevirtual 264, 3), (110, .bipush 47, 2), (112, .if_icmp .ne 75, 3), (115, .aload_n 0, 1), (116, .dup, 1), (117, .getfield 261, 3), (120, .iconst 1, 1), (121, .iadd, 1), (122, .putfield 261, 3), (125, .aload_n 0, 1), (126, .iconst 1, 1), (127, .putfield 288, 3), (130, .aload_n 0, 1), (131, .aload_n 0, 1), (132, .getfield 261, 3), (135, .putfield 300, 3), (138, .aload_n 0, 1), (139, .aload_n 0, 1), (140, .invokevirtual 282, 3), (143, .putfield 303, 3), (146, .aload_n 0, 1), (147, .getfield 271, 3), (150, .ifCond .ne 37, 3), (153, .aload_n 0, 1), (154, .invokevirtual 264, 3), (157, .bipush 59, 2)] = true := by decide +kernel
theorem dX9_form_79 : decode cX9_form 79 = .ok (.if_icmp .ge 20, 3) := dq daX9_form_40 (i := 0) rfl
theorem dX9_form_82 : decode cX9_form 82 = .ok (.aload_n 0, 1) := dq daX9_form_40 (i := 1) rfl
theorem dX9_form_83 : decode cX9_form 83 = .ok (.dup, 1) := dq daX9_form_40 (i := 2) rfl
theorem dX9_form_84 : decode cX9_form 84 = .ok (.getfield 261, 3) := dq daX9_form_40 (i := 3) rfl
theorem dX9_form_87 : decode cX9_form 87 = .ok (.iconst 1, 1) := dq daX9_form_40 (i := 4) rfl
theorem dX9_form_88 : decode cX9_form 88 = .ok (.iadd, 1) := dq daX9_form_40 (i := 5) rfl
theorem dX9_form_89 : decode cX9_form 89 = .ok (.putfield 261, 3) := dq daX9_form_40 (i := 6) rfl
theorem dX9_form_92 : decode cX9_form 92 = .ok (.aload_n 0, 1) := dq daX9_form_40 (i := 7) rfl
theorem dX9_form_93 : decode cX9_form 93 = .ok (.invokevirtual 297, 3) := dq daX9_form_40 (i := 8) rfl
theorem dX9_form_96 : decode cX9_form 96 = .ok (.goto (-39), 3) := dq daX9_form_40 (i := 9) rfl
theorem dX9_form_99 : decode cX9_form 99 = .ok (.aload_n 0, 1) := dq daX9_form_40 (i := 10) rfl
theorem dX9_form_100 : decode cX9_form 100 = .ok (.getfield 271, 3) := dq daX9_form_40 (i := 11) rfl
theorem dX9_form_103 : decode cX9_form 103 = .ok (.ifCond .ne 84, 3) := dq daX9_form_40 (i := 12) rfl
theorem dX9_form_106 : decode cX9_form 106 = .ok (.aload_n 0, 1) := dq daX9_form_40 (i := 13) rfl
theorem dX9_form_107 : decode cX9_form 107 = .ok (.invokevirtual 264, 3) := dq daX9_form_40 (i := 14) rfl
theorem dX9_form_110 : decode cX9_form 110 = .ok (.bipush 47, 2) := dq daX9_form_40 (i := 15) rfl
theorem dX9_form_112 : decode cX9_form 112 = .ok (.if_icmp .ne 75, 3) := dq daX9_form_40 (i := 16) rfl
theorem dX9_form_115 : decode cX9_form 115 = .ok (.aload_n 0, 1) := dq daX9_form_40 (i := 17) rfl
theorem dX9_form_116 : decode cX9_form 116 = .ok (.dup, 1) := dq daX9_form_40 (i := 18) rfl
theorem dX9_form_117 : decode cX9_form 117 = .ok (.getfield 261, 3) := dq daX9_form_40 (i := 19) rfl
theorem dX9_form_120 : decode cX9_form 120 = .ok (.iconst 1, 1) := dq daX9_form_40 (i := 20) rfl
theorem dX9_form_121 : decode cX9_form 121 = .ok (.iadd, 1) := dq daX9_form_40 (i := 21) rfl
theorem dX9_form_122 : decode cX9_form 122 = .ok (.putfield 261, 3) := dq daX9_form_40 (i := 22) rfl
theorem dX9_form_125 : decode cX9_form 125 = .ok (.aload_n 0, 1) := dq daX9_form_40 (i := 23) rfl
theorem dX9_form_126 : decode cX9_form 126 = .ok (.iconst 1, 1) := dq daX9_form_40 (i := 24) rfl
theorem dX9_form_127 : decode cX9_form 127 = .ok (.putfield 288, 3) := dq daX9_form_40 (i := 25) rfl
theorem dX9_form_130 : decode cX9_form 130 = .ok (.aload_n 0, 1) := dq daX9_form_40 (i := 26) rfl
theorem dX9_form_131 : decode cX9_form 131 = .ok (.aload_n 0, 1) := dq daX9_form_40 (i := 27) rfl
theorem dX9_form_132 : decode cX9_form 132 = .ok (.getfield 261, 3) := dq daX9_form_40 (i := 28) rfl
theorem dX9_form_135 : decode cX9_form 135 = .ok (.putfield 300, 3) := dq daX9_form_40 (i := 29) rfl
theorem dX9_form_138 : decode cX9_form 138 = .ok (.aload_n 0, 1) := dq daX9_form_40 (i := 30) rfl
theorem dX9_form_139 : decode cX9_form 139 = .ok (.aload_n 0, 1) := dq daX9_form_40 (i := 31) rfl
theorem dX9_form_140 : decode cX9_form 140 = .ok (.invokevirtual 282, 3) := dq daX9_form_40 (i := 32) rfl
theorem dX9_form_143 : decode cX9_form 143 = .ok (.putfield 303, 3) := dq daX9_form_40 (i := 33) rfl
theorem dX9_form_146 : decode cX9_form 146 = .ok (.aload_n 0, 1) := dq daX9_form_40 (i := 34) rfl
theorem dX9_form_147 : decode cX9_form 147 = .ok (.getfield 271, 3) := dq daX9_form_40 (i := 35) rfl
theorem dX9_form_150 : decode cX9_form 150 = .ok (.ifCond .ne 37, 3) := dq daX9_form_40 (i := 36) rfl
theorem dX9_form_153 : decode cX9_form 153 = .ok (.aload_n 0, 1) := dq daX9_form_40 (i := 37) rfl
theorem dX9_form_154 : decode cX9_form 154 = .ok (.invokevirtual 264, 3) := dq daX9_form_40 (i := 38) rfl
theorem dX9_form_157 : decode cX9_form 157 = .ok (.bipush 59, 2) := dq daX9_form_40 (i := 39) rfl
theorem daX9_form_80 : dchk cX9_form [(159, .if_icmp .ne 28, 3), (162, .aload_n 0, 1), (163, .getfield 285, 3), (166, .iconst 3, 1), (167, .if_icmp .ge 20, 3), (170, .aload_n 0, 1), (171, .dup, 1), (172, .getfield 261, 3), (175, .iconst 1, 1), (176, .iadd, 1), (177, .putfield 261, 3), (180, .aload_n 0, 1), (181, .invokevirtual 306, 3), (184, .goto (-38), 3), (187, .aload_n 0, 1), (188, .aload_n 0, 1), (189, .getfield 271, 3), (192, .ifCond .ne 14, 3), (195, .aload_n 0, 1), (196, .getfield 261, 3), (199, .aload_n 0, 1), (200, .getfield 258, 3), (203, .if_icmp .ge 7, 3), (206, .iconst 1, 1), (207, .goto 4, 3), (210, .iconst 0, 1), (211, .putfield 271, 3), (214, .return_, 1)] = true := by decide +kernel
theorem dX9_form_159 : decode cX9_form 159 = .ok (.if_icmp .ne 28, 3) := dq daX9_form_80 (i := 0) rfl
theorem dX9_form_162 : decode cX9_form 162 = .ok (.aload_n 0, 1) := dq daX9_form_80 (i := 1) rfl
theorem dX9_form_163 : decode cX9_form 163 = .ok (.getfield 285, 3) := dq daX9_form_80 (i := 2) rfl
theorem dX9_form_166 : decode cX9_form 166 = .ok (.iconst 3, 1) := dq daX9_form_80 (i := 3) rfl
theorem dX9_form_167 : decode cX9_form 167 = .ok (.if_icmp .ge 20, 3) := dq daX9_form_80 (i := 4) rfl
theorem dX9_form_170 : decode cX9_form 170 = .ok (.aload_n 0, 1) := dq daX9_form_80 (i := 5) rfl
theorem dX9_form_171 : decode cX9_form 171 = .ok (.dup, 1) := dq daX9_form_80 (i := 6) rfl
theorem dX9_form_172 : decode cX9_form 172 = .ok (.getfield 261, 3) := dq daX9_form_80 (i := 7) rfl
theorem dX9_form_175 : decode cX9_form 175 = .ok (.iconst 1, 1) := dq daX9_form_80 (i := 8) rfl
theorem dX9_form_176 : decode cX9_form 176 = .ok (.iadd, 1) := dq daX9_form_80 (i := 9) rfl
theorem dX9_form_177 : decode cX9_form 177 = .ok (.putfield 261, 3) := dq daX9_form_80 (i := 10) rfl
theorem dX9_form_180 : decode cX9_form 180 = .ok (.aload_n 0, 1) := dq daX9_form_80 (i := 11) rfl
theorem dX9_form_181 : decode cX9_form 181 = .ok (.invokevirtual 306, 3) := dq daX9_form_80 (i := 12) rfl
theorem dX9_form_184 : decode cX9_form 184 = .ok (.goto (-38), 3) := dq daX9_form_80 (i := 13) rfl
theorem dX9_form_187 : decode cX9_form 187 = .ok (.aload_n 0, 1) := dq daX9_form_80 (i := 14) rfl
theorem dX9_form_188 : decode cX9_form 188 = .ok (.aload_n 0, 1) := dq daX9_form_80 (i := 15) rfl
theorem dX9_form_189 : decode cX9_form 189 = .ok (.getfield 271, 3) := dq daX9_form_80 (i := 16) rfl
theorem dX9_form_192 : decode cX9_form 192 = .ok (.ifCond .ne 14, 3) := dq daX9_form_80 (i := 17) rfl
theorem dX9_form_195 : decode cX9_form 195 = .ok (.aload_n 0, 1) := dq daX9_form_80 (i := 18) rfl
theorem dX9_form_196 : decode cX9_form 196 = .ok (.getfield 261, 3) := dq daX9_form_80 (i := 19) rfl
theorem dX9_form_199 : decode cX9_form 199 = .ok (.aload_n 0, 1) := dq daX9_form_80 (i := 20) rfl
theorem dX9_form_200 : decode cX9_form 200 = .ok (.getfield 258, 3) := dq daX9_form_80 (i := 21) rfl
theorem dX9_form_203 : decode cX9_form 203 = .ok (.if_icmp .ge 7, 3) := dq daX9_form_80 (i := 22) rfl
theorem dX9_form_206 : decode cX9_form 206 = .ok (.iconst 1, 1) := dq daX9_form_80 (i := 23) rfl
theorem dX9_form_207 : decode cX9_form 207 = .ok (.goto 4, 3) := dq daX9_form_80 (i := 24) rfl
theorem dX9_form_210 : decode cX9_form 210 = .ok (.iconst 0, 1) := dq daX9_form_80 (i := 25) rfl
theorem dX9_form_211 : decode cX9_form 211 = .ok (.putfield 271, 3) := dq daX9_form_80 (i := 26) rfl
theorem dX9_form_214 : decode cX9_form 214 = .ok (.return_, 1) := dq daX9_form_80 (i := 27) rfl
theorem daX9_wrongFigures_0 : dchk cX9_wrongFigures [(0, .aload_n 0, 1), (1, .getfield 291, 3), (4, .iconst 2, 1), (5, .if_icmp .le 5, 3), (8, .iconst 0, 1), (9, .ireturn, 1), (10, .iconst 0, 1), (11, .istore_n 1, 1), (12, .iload_n 1, 1), (13, .aload_n 0, 1), (14, .getfield 279, 3), (17, .if_icmp .ge 27, 3), (20, .aload_n 0, 1), (21, .getfield 47, 3), (24, .iload_n 1, 1), (25, .iaload, 1), (26, .bipush 12, 2), (28, .if_icmp .le 10, 3), (31, .aload_n 0, 1), (32, .getfield 50, 3), (35, .iload_n 1, 1), (36, .iaload, 1), (37, .ireturn, 1), (38, .iinc 1 1, 3), (41, .goto (-29), 3), (44, .aload_n 0, 1), (45, .getfield 288, 3), (48, .ifCond .ne 6, 3), (51, .bipush (-2), 2), (53, .ireturn, 1), (54, .aload_n 0, 1), (55, .getfield 303, 3), (58, .i2l, 1), (59, .ldc2_w 128, 3), (62, .ldc2_w 214, 3), (65, .invokestatic 110, 3), (68, .ifCond .ne 8, 3), (71, .aload_n 0, 1), (72, .getfield 300, 3), (75, .ireturn, 1)] = true := by decide +kernel
theorem dX9_wrongFigures_0 : decode cX9_wrongFigures 0 = .ok (.aload_n 0, 1) := dq daX9_wrongFigures_0 (i := 0) rfl
theorem dX9_wrongFigures_1 : decode cX9_wrongFigures 1 = .ok (.getfield 291, 3) := dq daX9_wrongFigures_0 (i := 1) rfl
theorem dX9_wrongFigures_4 : decode cX9_wrongFigures 4 = .ok (.iconst 2, 1) := dq daX9_wrongFigures_0 (i := 2) rfl
theorem dX9_wrongFigures_5 : decode cX9_wrongFigures 5 = .ok (.if_icmp .le 5, 3) := dq daX9_wrongFigures_0 (i := 3) rfl
theorem dX9_wrongFigures_8 : decode cX9_wrongFigures 8 = .ok (.iconst 0, 1) := dq daX9_wrongFigures_0 (i := 4) rfl
theorem dX9_wrongFigures_9 : decode cX9_wrongFigures 9 = .ok (.ireturn, 1) := dq daX9_wrongFigures_0 (i := 5) rfl
theorem dX9_wrongFigures_10 : decode cX9_wrongFigures 10 = .ok (.iconst 0, 1) := dq daX9_wrongFigures_0 (i := 6) rfl
theorem dX9_wrongFigures_11 : decode cX9_wrongFigures 11 = .ok (.istore_n 1, 1) := dq daX9_wrongFigures_0 (i := 7) rfl
theorem dX9_wrongFigures_12 : decode cX9_wrongFigures 12 = .ok (.iload_n 1, 1) := dq daX9_wrongFigures_0 (i := 8) rfl
theorem dX9_wrongFigures_13 : decode cX9_wrongFigures 13 = .ok (.aload_n 0, 1) := dq daX9_wrongFigures_0 (i := 9) rfl
theorem dX9_wrongFigures_14 : decode cX9_wrongFigures 14 = .ok (.getfield 279, 3) := dq daX9_wrongFigures_0 (i := 10) rfl
theorem dX9_wrongFigures_17 : decode cX9_wrongFigures 17 = .ok (.if_icmp .ge 27, 3) := dq daX9_wrongFigures_0 (i := 11) rfl
theorem dX9_wrongFigures_20 : decode cX9_wrongFigures 20 = .ok (.aload_n 0, 1) := dq daX9_wrongFigures_0 (i := 12) rfl
theorem dX9_wrongFigures_21 : decode cX9_wrongFigures 21 = .ok (.getfield 47, 3) := dq daX9_wrongFigures_0 (i := 13) rfl
theorem dX9_wrongFigures_24 : decode cX9_wrongFigures 24 = .ok (.iload_n 1, 1) := dq daX9_wrongFigures_0 (i := 14) rfl
theorem dX9_wrongFigures_25 : decode cX9_wrongFigures 25 = .ok (.iaload, 1) := dq daX9_wrongFigures_0 (i := 15) rfl
theorem dX9_wrongFigures_26 : decode cX9_wrongFigures 26 = .ok (.bipush 12, 2) := dq daX9_wrongFigures_0 (i := 16) rfl
theorem dX9_wrongFigures_28 : decode cX9_wrongFigures 28 = .ok (.if_icmp .le 10, 3) := dq daX9_wrongFigures_0 (i := 17) rfl
theorem dX9_wrongFigures_31 : decode cX9_wrongFigures 31 = .ok (.aload_n 0, 1) := dq daX9_wrongFigures_0 (i := 18) rfl
theorem dX9_wrongFigures_32 : decode cX9_wrongFigures 32 = .ok (.getfield 50, 3) := dq daX9_wrongFigures_0 (i := 19) rfl
theorem dX9_wrongFigures_35 : decode cX9_wrongFigures 35 = .ok (.iload_n 1, 1) := dq daX9_wrongFigures_0 (i := 20) rfl
theorem dX9_wrongFigures_36 : decode cX9_wrongFigures 36 = .ok (.iaload, 1) := dq daX9_wrongFigures_0 (i := 21) rfl
theorem dX9_wrongFigures_37 : decode cX9_wrongFigures 37 = .ok (.ireturn, 1) := dq daX9_wrongFigures_0 (i := 22) rfl
theorem dX9_wrongFigures_38 : decode cX9_wrongFigures 38 = .ok (.iinc 1 1, 3) := dq daX9_wrongFigures_0 (i := 23) rfl
theorem dX9_wrongFigures_41 : decode cX9_wrongFigures 41 = .ok (.goto (-29), 3) := dq daX9_wrongFigures_0 (i := 24) rfl
theorem dX9_wrongFigures_44 : decode cX9_wrongFigures 44 = .ok (.aload_n 0, 1) := dq daX9_wrongFigures_0 (i := 25) rfl
theorem dX9_wrongFigures_45 : decode cX9_wrongFigures 45 = .ok (.getfield 288, 3) := dq daX9_wrongFigures_0 (i := 26) rfl
theorem dX9_wrongFigures_48 : decode cX9_wrongFigures 48 = .ok (.ifCond .ne 6, 3) := dq daX9_wrongFigures_0 (i := 27) rfl
theorem dX9_wrongFigures_51 : decode cX9_wrongFigures 51 = .ok (.bipush (-2), 2) := dq daX9_wrongFigures_0 (i := 28) rfl
theorem dX9_wrongFigures_53 : decode cX9_wrongFigures 53 = .ok (.ireturn, 1) := dq daX9_wrongFigures_0 (i := 29) rfl
theorem dX9_wrongFigures_54 : decode cX9_wrongFigures 54 = .ok (.aload_n 0, 1) := dq daX9_wrongFigures_0 (i := 30) rfl
theorem dX9_wrongFigures_55 : decode cX9_wrongFigures 55 = .ok (.getfield 303, 3) := dq daX9_wrongFigures_0 (i := 31) rfl
theorem dX9_wrongFigures_58 : decode cX9_wrongFigures 58 = .ok (.i2l, 1) := dq daX9_wrongFigures_0 (i := 32) rfl
theorem dX9_wrongFigures_59 : decode cX9_wrongFigures 59 = .ok (.ldc2_w 128, 3) := dq daX9_wrongFigures_0 (i := 33) rfl
theorem dX9_wrongFigures_62 : decode cX9_wrongFigures 62 = .ok (.ldc2_w 214, 3) := dq daX9_wrongFigures_0 (i := 34) rfl
theorem dX9_wrongFigures_65 : decode cX9_wrongFigures 65 = .ok (.invokestatic 110, 3) := dq daX9_wrongFigures_0 (i := 35) rfl
theorem dX9_wrongFigures_68 : decode cX9_wrongFigures 68 = .ok (.ifCond .ne 8, 3) := dq daX9_wrongFigures_0 (i := 36) rfl
theorem dX9_wrongFigures_71 : decode cX9_wrongFigures 71 = .ok (.aload_n 0, 1) := dq daX9_wrongFigures_0 (i := 37) rfl
theorem dX9_wrongFigures_72 : decode cX9_wrongFigures 72 = .ok (.getfield 300, 3) := dq daX9_wrongFigures_0 (i := 38) rfl
theorem dX9_wrongFigures_75 : decode cX9_wrongFigures 75 = .ok (.ireturn, 1) := dq daX9_wrongFigures_0 (i := 39) rfl
theorem daX9_wrongFigures_40 : dchk cX9_wrongFigures [(76, .iconst 0, 1), (77, .istore_n 1, 1), (78, .iload_n 1, 1), (79, .aload_n 0, 1), (80, .getfield 285, 3), (83, .if_icmp .ge 85, 3), (86, .aload_n 0, 1), (87, .getfield 53, 3), (90, .iload_n 1, 1), (91, .iaload, 1), (92, .aload_n 0, 1), (93, .getfield 303, 3), (96, .invokestatic 216, 3), (99, .ifCond .ne 10, 3), (102, .aload_n 0, 1), (103, .getfield 56, 3), (106, .iload_n 1, 1), (107, .iaload, 1), (108, .ireturn, 1), (109, .iconst 0, 1), (110, .istore_n 2, 1), (111, .iload_n 2, 1), (112, .iload_n 1, 1), (113, .if_icmp .ge 49, 3), (116, .aload_n 0, 1), (117, .getfield 53, 3), (120, .iload_n 2, 1), (121, .iaload, 1), (122, .aload_n 0, 1), (123, .getfield 53, 3), (126, .iload_n 1, 1), (127, .iaload, 1), (128, .if_icmp .eq 21, 3), (131, .aload_n 0, 1), (132, .getfield 53, 3), (135, .iload_n 2, 1), (136, .iaload, 1), (137, .aload_n 0, 1), (138, .getfield 53, 3), (141, .iload_n 1, 1)] = true := by decide +kernel
theorem dX9_wrongFigures_76 : decode cX9_wrongFigures 76 = .ok (.iconst 0, 1) := dq daX9_wrongFigures_40 (i := 0) rfl
theorem dX9_wrongFigures_77 : decode cX9_wrongFigures 77 = .ok (.istore_n 1, 1) := dq daX9_wrongFigures_40 (i := 1) rfl
theorem dX9_wrongFigures_78 : decode cX9_wrongFigures 78 = .ok (.iload_n 1, 1) := dq daX9_wrongFigures_40 (i := 2) rfl
theorem dX9_wrongFigures_79 : decode cX9_wrongFigures 79 = .ok (.aload_n 0, 1) := dq daX9_wrongFigures_40 (i := 3) rfl
theorem dX9_wrongFigures_80 : decode cX9_wrongFigures 80 = .ok (.getfield 285, 3) := dq daX9_wrongFigures_40 (i := 4) rfl
theorem dX9_wrongFigures_83 : decode cX9_wrongFigures 83 = .ok (.if_icmp .ge 85, 3) := dq daX9_wrongFigures_40 (i := 5) rfl
theorem dX9_wrongFigures_86 : decode cX9_wrongFigures 86 = .ok (.aload_n 0, 1) := dq daX9_wrongFigures_40 (i := 6) rfl
theorem dX9_wrongFigures_87 : decode cX9_wrongFigures 87 = .ok (.getfield 53, 3) := dq daX9_wrongFigures_40 (i := 7) rfl
theorem dX9_wrongFigures_90 : decode cX9_wrongFigures 90 = .ok (.iload_n 1, 1) := dq daX9_wrongFigures_40 (i := 8) rfl
theorem dX9_wrongFigures_91 : decode cX9_wrongFigures 91 = .ok (.iaload, 1) := dq daX9_wrongFigures_40 (i := 9) rfl
theorem dX9_wrongFigures_92 : decode cX9_wrongFigures 92 = .ok (.aload_n 0, 1) := dq daX9_wrongFigures_40 (i := 10) rfl
theorem dX9_wrongFigures_93 : decode cX9_wrongFigures 93 = .ok (.getfield 303, 3) := dq daX9_wrongFigures_40 (i := 11) rfl
theorem dX9_wrongFigures_96 : decode cX9_wrongFigures 96 = .ok (.invokestatic 216, 3) := dq daX9_wrongFigures_40 (i := 12) rfl
theorem dX9_wrongFigures_99 : decode cX9_wrongFigures 99 = .ok (.ifCond .ne 10, 3) := dq daX9_wrongFigures_40 (i := 13) rfl
theorem dX9_wrongFigures_102 : decode cX9_wrongFigures 102 = .ok (.aload_n 0, 1) := dq daX9_wrongFigures_40 (i := 14) rfl
theorem dX9_wrongFigures_103 : decode cX9_wrongFigures 103 = .ok (.getfield 56, 3) := dq daX9_wrongFigures_40 (i := 15) rfl
theorem dX9_wrongFigures_106 : decode cX9_wrongFigures 106 = .ok (.iload_n 1, 1) := dq daX9_wrongFigures_40 (i := 16) rfl
theorem dX9_wrongFigures_107 : decode cX9_wrongFigures 107 = .ok (.iaload, 1) := dq daX9_wrongFigures_40 (i := 17) rfl
theorem dX9_wrongFigures_108 : decode cX9_wrongFigures 108 = .ok (.ireturn, 1) := dq daX9_wrongFigures_40 (i := 18) rfl
theorem dX9_wrongFigures_109 : decode cX9_wrongFigures 109 = .ok (.iconst 0, 1) := dq daX9_wrongFigures_40 (i := 19) rfl
theorem dX9_wrongFigures_110 : decode cX9_wrongFigures 110 = .ok (.istore_n 2, 1) := dq daX9_wrongFigures_40 (i := 20) rfl
theorem dX9_wrongFigures_111 : decode cX9_wrongFigures 111 = .ok (.iload_n 2, 1) := dq daX9_wrongFigures_40 (i := 21) rfl
theorem dX9_wrongFigures_112 : decode cX9_wrongFigures 112 = .ok (.iload_n 1, 1) := dq daX9_wrongFigures_40 (i := 22) rfl
theorem dX9_wrongFigures_113 : decode cX9_wrongFigures 113 = .ok (.if_icmp .ge 49, 3) := dq daX9_wrongFigures_40 (i := 23) rfl
theorem dX9_wrongFigures_116 : decode cX9_wrongFigures 116 = .ok (.aload_n 0, 1) := dq daX9_wrongFigures_40 (i := 24) rfl
theorem dX9_wrongFigures_117 : decode cX9_wrongFigures 117 = .ok (.getfield 53, 3) := dq daX9_wrongFigures_40 (i := 25) rfl
theorem dX9_wrongFigures_120 : decode cX9_wrongFigures 120 = .ok (.iload_n 2, 1) := dq daX9_wrongFigures_40 (i := 26) rfl
theorem dX9_wrongFigures_121 : decode cX9_wrongFigures 121 = .ok (.iaload, 1) := dq daX9_wrongFigures_40 (i := 27) rfl
theorem dX9_wrongFigures_122 : decode cX9_wrongFigures 122 = .ok (.aload_n 0, 1) := dq daX9_wrongFigures_40 (i := 28) rfl
theorem dX9_wrongFigures_123 : decode cX9_wrongFigures 123 = .ok (.getfield 53, 3) := dq daX9_wrongFigures_40 (i := 29) rfl
theorem dX9_wrongFigures_126 : decode cX9_wrongFigures 126 = .ok (.iload_n 1, 1) := dq daX9_wrongFigures_40 (i := 30) rfl
theorem dX9_wrongFigures_127 : decode cX9_wrongFigures 127 = .ok (.iaload, 1) := dq daX9_wrongFigures_40 (i := 31) rfl
theorem dX9_wrongFigures_128 : decode cX9_wrongFigures 128 = .ok (.if_icmp .eq 21, 3) := dq daX9_wrongFigures_40 (i := 32) rfl
theorem dX9_wrongFigures_131 : decode cX9_wrongFigures 131 = .ok (.aload_n 0, 1) := dq daX9_wrongFigures_40 (i := 33) rfl
theorem dX9_wrongFigures_132 : decode cX9_wrongFigures 132 = .ok (.getfield 53, 3) := dq daX9_wrongFigures_40 (i := 34) rfl
theorem dX9_wrongFigures_135 : decode cX9_wrongFigures 135 = .ok (.iload_n 2, 1) := dq daX9_wrongFigures_40 (i := 35) rfl
theorem dX9_wrongFigures_136 : decode cX9_wrongFigures 136 = .ok (.iaload, 1) := dq daX9_wrongFigures_40 (i := 36) rfl
theorem dX9_wrongFigures_137 : decode cX9_wrongFigures 137 = .ok (.aload_n 0, 1) := dq daX9_wrongFigures_40 (i := 37) rfl
theorem dX9_wrongFigures_138 : decode cX9_wrongFigures 138 = .ok (.getfield 53, 3) := dq daX9_wrongFigures_40 (i := 38) rfl
theorem dX9_wrongFigures_141 : decode cX9_wrongFigures 141 = .ok (.iload_n 1, 1) := dq daX9_wrongFigures_40 (i := 39) rfl
theorem daX9_wrongFigures_80 : dchk cX9_wrongFigures [(142, .iaload, 1), (143, .invokestatic 210, 3), (146, .ifCond .ne 10, 3), (149, .aload_n 0, 1), (150, .getfield 56, 3), (153, .iload_n 1, 1), (154, .iaload, 1), (155, .ireturn, 1), (156, .iinc 2 1, 3), (159, .goto (-48), 3), (162, .iinc 1 1, 3), (165, .goto (-87), 3), (168, .bipush (-2), 2), (170, .ireturn, 1)] = true := by decide +kernel
theorem dX9_wrongFigures_142 : decode cX9_wrongFigures 142 = .ok (.iaload, 1) := dq daX9_wrongFigures_80 (i := 0) rfl
theorem dX9_wrongFigures_143 : decode cX9_wrongFigures 143 = .ok (.invokestatic 210, 3) := dq daX9_wrongFigures_80 (i := 1) rfl
theorem dX9_wrongFigures_146 : decode cX9_wrongFigures 146 = .ok (.ifCond .ne 10, 3) := dq daX9_wrongFigures_80 (i := 2) rfl
theorem dX9_wrongFigures_149 : decode cX9_wrongFigures 149 = .ok (.aload_n 0, 1) := dq daX9_wrongFigures_80 (i := 3) rfl
theorem dX9_wrongFigures_150 : decode cX9_wrongFigures 150 = .ok (.getfield 56, 3) := dq daX9_wrongFigures_80 (i := 4) rfl
theorem dX9_wrongFigures_153 : decode cX9_wrongFigures 153 = .ok (.iload_n 1, 1) := dq daX9_wrongFigures_80 (i := 5) rfl
theorem dX9_wrongFigures_154 : decode cX9_wrongFigures 154 = .ok (.iaload, 1) := dq daX9_wrongFigures_80 (i := 6) rfl
theorem dX9_wrongFigures_155 : decode cX9_wrongFigures 155 = .ok (.ireturn, 1) := dq daX9_wrongFigures_80 (i := 7) rfl
theorem dX9_wrongFigures_156 : decode cX9_wrongFigures 156 = .ok (.iinc 2 1, 3) := dq daX9_wrongFigures_80 (i := 8) rfl
theorem dX9_wrongFigures_159 : decode cX9_wrongFigures 159 = .ok (.goto (-48), 3) := dq daX9_wrongFigures_80 (i := 9) rfl
theorem dX9_wrongFigures_162 : decode cX9_wrongFigures 162 = .ok (.iinc 1 1, 3) := dq daX9_wrongFigures_80 (i := 10) rfl
theorem dX9_wrongFigures_165 : decode cX9_wrongFigures 165 = .ok (.goto (-87), 3) := dq daX9_wrongFigures_80 (i := 11) rfl
theorem dX9_wrongFigures_168 : decode cX9_wrongFigures 168 = .ok (.bipush (-2), 2) := dq daX9_wrongFigures_80 (i := 12) rfl
theorem dX9_wrongFigures_170 : decode cX9_wrongFigures 170 = .ok (.ireturn, 1) := dq daX9_wrongFigures_80 (i := 13) rfl
theorem daX9_because_0 : dchk cX9_because [(0, .iconst 0, 1), (1, .istore_n 3, 1), (2, .iload_n 3, 1), (3, .aload_n 0, 1), (4, .getfield 258, 3), (7, .if_icmp .ge 20, 3), (10, .aload_n 0, 1), (11, .getfield 44, 3), (14, .iload_n 3, 1), (15, .iaload, 1), (16, .bipush 47, 2), (18, .if_icmp .eq 9, 3), (21, .iinc 3 1, 3), (24, .goto (-22), 3), (27, .iload_n 2, 1), (28, .ifCond .ne 7, 3), (31, .iconst 2, 1), (32, .goto 24, 3), (35, .iload_n 2, 1), (36, .iload_n 3, 1), (37, .if_icmp .gt 7, 3), (40, .iconst 3, 1), (41, .goto 15, 3), (44, .iload_n 2, 1), (45, .iload_n 3, 1), (46, .iconst 1, 1), (47, .iadd, 1), (48, .if_icmp .ne 7, 3), (51, .iconst 4, 1), (52, .goto 4, 3), (55, .iconst 5, 1), (56, .istore 4, 2), (58, .iconst 0, 1), (59, .istore 5, 2), (61, .iconst 0, 1), (62, .istore 6, 2), (64, .iload 6, 2), (66, .iload_n 2, 1), (67, .if_icmp .ge 55, 3), (70, .iload 5, 2)] = true := by decide +kernel
theorem dX9_because_0 : decode cX9_because 0 = .ok (.iconst 0, 1) := dq daX9_because_0 (i := 0) rfl
theorem dX9_because_1 : decode cX9_because 1 = .ok (.istore_n 3, 1) := dq daX9_because_0 (i := 1) rfl
theorem dX9_because_2 : decode cX9_because 2 = .ok (.iload_n 3, 1) := dq daX9_because_0 (i := 2) rfl
theorem dX9_because_3 : decode cX9_because 3 = .ok (.aload_n 0, 1) := dq daX9_because_0 (i := 3) rfl
theorem dX9_because_4 : decode cX9_because 4 = .ok (.getfield 258, 3) := dq daX9_because_0 (i := 4) rfl
theorem dX9_because_7 : decode cX9_because 7 = .ok (.if_icmp .ge 20, 3) := dq daX9_because_0 (i := 5) rfl
theorem dX9_because_10 : decode cX9_because 10 = .ok (.aload_n 0, 1) := dq daX9_because_0 (i := 6) rfl
theorem dX9_because_11 : decode cX9_because 11 = .ok (.getfield 44, 3) := dq daX9_because_0 (i := 7) rfl
theorem dX9_because_14 : decode cX9_because 14 = .ok (.iload_n 3, 1) := dq daX9_because_0 (i := 8) rfl
theorem dX9_because_15 : decode cX9_because 15 = .ok (.iaload, 1) := dq daX9_because_0 (i := 9) rfl
theorem dX9_because_16 : decode cX9_because 16 = .ok (.bipush 47, 2) := dq daX9_because_0 (i := 10) rfl
theorem dX9_because_18 : decode cX9_because 18 = .ok (.if_icmp .eq 9, 3) := dq daX9_because_0 (i := 11) rfl
theorem dX9_because_21 : decode cX9_because 21 = .ok (.iinc 3 1, 3) := dq daX9_because_0 (i := 12) rfl
theorem dX9_because_24 : decode cX9_because 24 = .ok (.goto (-22), 3) := dq daX9_because_0 (i := 13) rfl
theorem dX9_because_27 : decode cX9_because 27 = .ok (.iload_n 2, 1) := dq daX9_because_0 (i := 14) rfl
theorem dX9_because_28 : decode cX9_because 28 = .ok (.ifCond .ne 7, 3) := dq daX9_because_0 (i := 15) rfl
theorem dX9_because_31 : decode cX9_because 31 = .ok (.iconst 2, 1) := dq daX9_because_0 (i := 16) rfl
theorem dX9_because_32 : decode cX9_because 32 = .ok (.goto 24, 3) := dq daX9_because_0 (i := 17) rfl
theorem dX9_because_35 : decode cX9_because 35 = .ok (.iload_n 2, 1) := dq daX9_because_0 (i := 18) rfl
theorem dX9_because_36 : decode cX9_because 36 = .ok (.iload_n 3, 1) := dq daX9_because_0 (i := 19) rfl
theorem dX9_because_37 : decode cX9_because 37 = .ok (.if_icmp .gt 7, 3) := dq daX9_because_0 (i := 20) rfl
theorem dX9_because_40 : decode cX9_because 40 = .ok (.iconst 3, 1) := dq daX9_because_0 (i := 21) rfl
theorem dX9_because_41 : decode cX9_because 41 = .ok (.goto 15, 3) := dq daX9_because_0 (i := 22) rfl
theorem dX9_because_44 : decode cX9_because 44 = .ok (.iload_n 2, 1) := dq daX9_because_0 (i := 23) rfl
theorem dX9_because_45 : decode cX9_because 45 = .ok (.iload_n 3, 1) := dq daX9_because_0 (i := 24) rfl
theorem dX9_because_46 : decode cX9_because 46 = .ok (.iconst 1, 1) := dq daX9_because_0 (i := 25) rfl
theorem dX9_because_47 : decode cX9_because 47 = .ok (.iadd, 1) := dq daX9_because_0 (i := 26) rfl
theorem dX9_because_48 : decode cX9_because 48 = .ok (.if_icmp .ne 7, 3) := dq daX9_because_0 (i := 27) rfl
theorem dX9_because_51 : decode cX9_because 51 = .ok (.iconst 4, 1) := dq daX9_because_0 (i := 28) rfl
theorem dX9_because_52 : decode cX9_because 52 = .ok (.goto 4, 3) := dq daX9_because_0 (i := 29) rfl
theorem dX9_because_55 : decode cX9_because 55 = .ok (.iconst 5, 1) := dq daX9_because_0 (i := 30) rfl
theorem dX9_because_56 : decode cX9_because 56 = .ok (.istore 4, 2) := dq daX9_because_0 (i := 31) rfl
theorem dX9_because_58 : decode cX9_because 58 = .ok (.iconst 0, 1) := dq daX9_because_0 (i := 32) rfl
theorem dX9_because_59 : decode cX9_because 59 = .ok (.istore 5, 2) := dq daX9_because_0 (i := 33) rfl
theorem dX9_because_61 : decode cX9_because 61 = .ok (.iconst 0, 1) := dq daX9_because_0 (i := 34) rfl
theorem dX9_because_62 : decode cX9_because 62 = .ok (.istore 6, 2) := dq daX9_because_0 (i := 35) rfl
theorem dX9_because_64 : decode cX9_because 64 = .ok (.iload 6, 2) := dq daX9_because_0 (i := 36) rfl
theorem dX9_because_66 : decode cX9_because 66 = .ok (.iload_n 2, 1) := dq daX9_because_0 (i := 37) rfl
theorem dX9_because_67 : decode cX9_because 67 = .ok (.if_icmp .ge 55, 3) := dq daX9_because_0 (i := 38) rfl
theorem dX9_because_70 : decode cX9_because 70 = .ok (.iload 5, 2) := dq daX9_because_0 (i := 39) rfl
theorem daX9_because_40 : dchk cX9_because [(72, .iload 4, 2), (74, .iconst 3, 1), (75, .if_icmp .ne 15, 3), (78, .aload_n 0, 1), (79, .getfield 44, 3), (82, .iload 6, 2), (84, .iaload, 1), (85, .bipush 44, 2), (87, .if_icmp .eq 21, 3), (90, .iload 4, 2), (92, .iconst 5, 1), (93, .if_icmp .ne 19, 3), (96, .aload_n 0, 1), (97, .getfield 44, 3), (100, .iload 6, 2), (102, .iaload, 1), (103, .bipush 59, 2), (105, .if_icmp .ne 7, 3), (108, .iconst 1, 1), (109, .goto 4, 3), (112, .iconst 0, 1), (113, .iadd, 1), (114, .istore 5, 2), (116, .iinc 6 1, 3), (119, .goto (-55), 3), (122, .aload_n 0, 1), (123, .getfield 59, 3), (126, .iconst 0, 1), (127, .iconst 1, 1), (128, .iastore, 1), (129, .aload_n 0, 1), (130, .getfield 59, 3), (133, .iconst 1, 1), (134, .aload_n 0, 1), (135, .getfield 258, 3), (138, .iastore, 1), (139, .aload_n 0, 1), (140, .getfield 59, 3), (143, .iconst 2, 1), (144, .iload 4, 2)] = true := by decide +kernel
theorem dX9_because_72 : decode cX9_because 72 = .ok (.iload 4, 2) := dq daX9_because_40 (i := 0) rfl
theorem dX9_because_74 : decode cX9_because 74 = .ok (.iconst 3, 1) := dq daX9_because_40 (i := 1) rfl
theorem dX9_because_75 : decode cX9_because 75 = .ok (.if_icmp .ne 15, 3) := dq daX9_because_40 (i := 2) rfl
theorem dX9_because_78 : decode cX9_because 78 = .ok (.aload_n 0, 1) := dq daX9_because_40 (i := 3) rfl
theorem dX9_because_79 : decode cX9_because 79 = .ok (.getfield 44, 3) := dq daX9_because_40 (i := 4) rfl
theorem dX9_because_82 : decode cX9_because 82 = .ok (.iload 6, 2) := dq daX9_because_40 (i := 5) rfl
theorem dX9_because_84 : decode cX9_because 84 = .ok (.iaload, 1) := dq daX9_because_40 (i := 6) rfl
theorem dX9_because_85 : decode cX9_because 85 = .ok (.bipush 44, 2) := dq daX9_because_40 (i := 7) rfl
theorem dX9_because_87 : decode cX9_because 87 = .ok (.if_icmp .eq 21, 3) := dq daX9_because_40 (i := 8) rfl
theorem dX9_because_90 : decode cX9_because 90 = .ok (.iload 4, 2) := dq daX9_because_40 (i := 9) rfl
theorem dX9_because_92 : decode cX9_because 92 = .ok (.iconst 5, 1) := dq daX9_because_40 (i := 10) rfl
theorem dX9_because_93 : decode cX9_because 93 = .ok (.if_icmp .ne 19, 3) := dq daX9_because_40 (i := 11) rfl
theorem dX9_because_96 : decode cX9_because 96 = .ok (.aload_n 0, 1) := dq daX9_because_40 (i := 12) rfl
theorem dX9_because_97 : decode cX9_because 97 = .ok (.getfield 44, 3) := dq daX9_because_40 (i := 13) rfl
theorem dX9_because_100 : decode cX9_because 100 = .ok (.iload 6, 2) := dq daX9_because_40 (i := 14) rfl
theorem dX9_because_102 : decode cX9_because 102 = .ok (.iaload, 1) := dq daX9_because_40 (i := 15) rfl
theorem dX9_because_103 : decode cX9_because 103 = .ok (.bipush 59, 2) := dq daX9_because_40 (i := 16) rfl
theorem dX9_because_105 : decode cX9_because 105 = .ok (.if_icmp .ne 7, 3) := dq daX9_because_40 (i := 17) rfl
theorem dX9_because_108 : decode cX9_because 108 = .ok (.iconst 1, 1) := dq daX9_because_40 (i := 18) rfl
theorem dX9_because_109 : decode cX9_because 109 = .ok (.goto 4, 3) := dq daX9_because_40 (i := 19) rfl
theorem dX9_because_112 : decode cX9_because 112 = .ok (.iconst 0, 1) := dq daX9_because_40 (i := 20) rfl
theorem dX9_because_113 : decode cX9_because 113 = .ok (.iadd, 1) := dq daX9_because_40 (i := 21) rfl
theorem dX9_because_114 : decode cX9_because 114 = .ok (.istore 5, 2) := dq daX9_because_40 (i := 22) rfl
theorem dX9_because_116 : decode cX9_because 116 = .ok (.iinc 6 1, 3) := dq daX9_because_40 (i := 23) rfl
theorem dX9_because_119 : decode cX9_because 119 = .ok (.goto (-55), 3) := dq daX9_because_40 (i := 24) rfl
theorem dX9_because_122 : decode cX9_because 122 = .ok (.aload_n 0, 1) := dq daX9_because_40 (i := 25) rfl
theorem dX9_because_123 : decode cX9_because 123 = .ok (.getfield 59, 3) := dq daX9_because_40 (i := 26) rfl
theorem dX9_because_126 : decode cX9_because 126 = .ok (.iconst 0, 1) := dq daX9_because_40 (i := 27) rfl
theorem dX9_because_127 : decode cX9_because 127 = .ok (.iconst 1, 1) := dq daX9_because_40 (i := 28) rfl
theorem dX9_because_128 : decode cX9_because 128 = .ok (.iastore, 1) := dq daX9_because_40 (i := 29) rfl
theorem dX9_because_129 : decode cX9_because 129 = .ok (.aload_n 0, 1) := dq daX9_because_40 (i := 30) rfl
theorem dX9_because_130 : decode cX9_because 130 = .ok (.getfield 59, 3) := dq daX9_because_40 (i := 31) rfl
theorem dX9_because_133 : decode cX9_because 133 = .ok (.iconst 1, 1) := dq daX9_because_40 (i := 32) rfl
theorem dX9_because_134 : decode cX9_because 134 = .ok (.aload_n 0, 1) := dq daX9_because_40 (i := 33) rfl
theorem dX9_because_135 : decode cX9_because 135 = .ok (.getfield 258, 3) := dq daX9_because_40 (i := 34) rfl
theorem dX9_because_138 : decode cX9_because 138 = .ok (.iastore, 1) := dq daX9_because_40 (i := 35) rfl
theorem dX9_because_139 : decode cX9_because 139 = .ok (.aload_n 0, 1) := dq daX9_because_40 (i := 36) rfl
theorem dX9_because_140 : decode cX9_because 140 = .ok (.getfield 59, 3) := dq daX9_because_40 (i := 37) rfl
theorem dX9_because_143 : decode cX9_because 143 = .ok (.iconst 2, 1) := dq daX9_because_40 (i := 38) rfl
theorem dX9_because_144 : decode cX9_because 144 = .ok (.iload 4, 2) := dq daX9_because_40 (i := 39) rfl
theorem daX9_because_80 : dchk cX9_because [(146, .iastore, 1), (147, .aload_n 0, 1), (148, .getfield 59, 3), (151, .iconst 3, 1), (152, .iload 5, 2), (154, .iastore, 1), (155, .aload_n 0, 1), (156, .getfield 59, 3), (159, .iconst 4, 1), (160, .iload_n 1, 1), (161, .iastore, 1), (162, .aload_n 0, 1), (163, .getfield 59, 3), (166, .iconst 5, 1), (167, .iload_n 2, 1), (168, .iastore, 1), (169, .aload_n 0, 1), (170, .iconst 1, 1), (171, .putfield 309, 3), (174, .return_, 1)] = true := by decide +kernel
theorem dX9_because_146 : decode cX9_because 146 = .ok (.iastore, 1) := dq daX9_because_80 (i := 0) rfl
theorem dX9_because_147 : decode cX9_because 147 = .ok (.aload_n 0, 1) := dq daX9_because_80 (i := 1) rfl
theorem dX9_because_148 : decode cX9_because 148 = .ok (.getfield 59, 3) := dq daX9_because_80 (i := 2) rfl
theorem dX9_because_151 : decode cX9_because 151 = .ok (.iconst 3, 1) := dq daX9_because_80 (i := 3) rfl
theorem dX9_because_152 : decode cX9_because 152 = .ok (.iload 5, 2) := dq daX9_because_80 (i := 4) rfl
theorem dX9_because_154 : decode cX9_because 154 = .ok (.iastore, 1) := dq daX9_because_80 (i := 5) rfl
theorem dX9_because_155 : decode cX9_because 155 = .ok (.aload_n 0, 1) := dq daX9_because_80 (i := 6) rfl
theorem dX9_because_156 : decode cX9_because 156 = .ok (.getfield 59, 3) := dq daX9_because_80 (i := 7) rfl
theorem dX9_because_159 : decode cX9_because 159 = .ok (.iconst 4, 1) := dq daX9_because_80 (i := 8) rfl
theorem dX9_because_160 : decode cX9_because 160 = .ok (.iload_n 1, 1) := dq daX9_because_80 (i := 9) rfl
theorem dX9_because_161 : decode cX9_because 161 = .ok (.iastore, 1) := dq daX9_because_80 (i := 10) rfl
theorem dX9_because_162 : decode cX9_because 162 = .ok (.aload_n 0, 1) := dq daX9_because_80 (i := 11) rfl
theorem dX9_because_163 : decode cX9_because 163 = .ok (.getfield 59, 3) := dq daX9_because_80 (i := 12) rfl
theorem dX9_because_166 : decode cX9_because 166 = .ok (.iconst 5, 1) := dq daX9_because_80 (i := 13) rfl
theorem dX9_because_167 : decode cX9_because 167 = .ok (.iload_n 2, 1) := dq daX9_because_80 (i := 14) rfl
theorem dX9_because_168 : decode cX9_because 168 = .ok (.iastore, 1) := dq daX9_because_80 (i := 15) rfl
theorem dX9_because_169 : decode cX9_because 169 = .ok (.aload_n 0, 1) := dq daX9_because_80 (i := 16) rfl
theorem dX9_because_170 : decode cX9_because 170 = .ok (.iconst 1, 1) := dq daX9_because_80 (i := 17) rfl
theorem dX9_because_171 : decode cX9_because 171 = .ok (.putfield 309, 3) := dq daX9_because_80 (i := 18) rfl
theorem dX9_because_174 : decode cX9_because 174 = .ok (.return_, 1) := dq daX9_because_80 (i := 19) rfl
theorem daX9_read_0 : dchk cX9_read [(0, .aload_n 0, 1), (1, .invokevirtual 312, 3), (4, .aload_n 0, 1), (5, .getfield 271, 3), (8, .ifCond .eq 27, 3), (11, .aload_n 0, 1), (12, .bipush 6, 2), (14, .aload_n 0, 1), (15, .getfield 261, 3), (18, .invokevirtual 315, 3), (21, .aload_n 0, 1), (22, .iconst 0, 1), (23, .putfield 258, 3), (26, .sipush (-1000), 3), (29, .aload_n 0, 1), (30, .getfield 261, 3), (33, .isub, 1), (34, .ireturn, 1), (35, .aload_n 0, 1), (36, .invokevirtual 318, 3), (39, .istore_n 1, 1), (40, .iload_n 1, 1), (41, .ifCond .lt 21, 3), (44, .aload_n 0, 1), (45, .bipush 7, 2), (47, .iload_n 1, 1), (48, .invokevirtual 315, 3), (51, .aload_n 0, 1), (52, .iconst 0, 1), (53, .putfield 258, 3), (56, .sipush (-2000), 3), (59, .iload_n 1, 1), (60, .isub, 1), (61, .ireturn, 1), (62, .aload_n 0, 1), (63, .iconst 0, 1), (64, .putfield 258, 3), (67, .aload_n 0, 1), (68, .invokevirtual 116, 3), (71, .aload_n 0, 1)] = true := by decide +kernel
theorem dX9_read_0 : decode cX9_read 0 = .ok (.aload_n 0, 1) := dq daX9_read_0 (i := 0) rfl
theorem dX9_read_1 : decode cX9_read 1 = .ok (.invokevirtual 312, 3) := dq daX9_read_0 (i := 1) rfl
theorem dX9_read_4 : decode cX9_read 4 = .ok (.aload_n 0, 1) := dq daX9_read_0 (i := 2) rfl
theorem dX9_read_5 : decode cX9_read 5 = .ok (.getfield 271, 3) := dq daX9_read_0 (i := 3) rfl
theorem dX9_read_8 : decode cX9_read 8 = .ok (.ifCond .eq 27, 3) := dq daX9_read_0 (i := 4) rfl
theorem dX9_read_11 : decode cX9_read 11 = .ok (.aload_n 0, 1) := dq daX9_read_0 (i := 5) rfl
theorem dX9_read_12 : decode cX9_read 12 = .ok (.bipush 6, 2) := dq daX9_read_0 (i := 6) rfl
theorem dX9_read_14 : decode cX9_read 14 = .ok (.aload_n 0, 1) := dq daX9_read_0 (i := 7) rfl
theorem dX9_read_15 : decode cX9_read 15 = .ok (.getfield 261, 3) := dq daX9_read_0 (i := 8) rfl
theorem dX9_read_18 : decode cX9_read 18 = .ok (.invokevirtual 315, 3) := dq daX9_read_0 (i := 9) rfl
theorem dX9_read_21 : decode cX9_read 21 = .ok (.aload_n 0, 1) := dq daX9_read_0 (i := 10) rfl
theorem dX9_read_22 : decode cX9_read 22 = .ok (.iconst 0, 1) := dq daX9_read_0 (i := 11) rfl
theorem dX9_read_23 : decode cX9_read 23 = .ok (.putfield 258, 3) := dq daX9_read_0 (i := 12) rfl
theorem dX9_read_26 : decode cX9_read 26 = .ok (.sipush (-1000), 3) := dq daX9_read_0 (i := 13) rfl
theorem dX9_read_29 : decode cX9_read 29 = .ok (.aload_n 0, 1) := dq daX9_read_0 (i := 14) rfl
theorem dX9_read_30 : decode cX9_read 30 = .ok (.getfield 261, 3) := dq daX9_read_0 (i := 15) rfl
theorem dX9_read_33 : decode cX9_read 33 = .ok (.isub, 1) := dq daX9_read_0 (i := 16) rfl
theorem dX9_read_34 : decode cX9_read 34 = .ok (.ireturn, 1) := dq daX9_read_0 (i := 17) rfl
theorem dX9_read_35 : decode cX9_read 35 = .ok (.aload_n 0, 1) := dq daX9_read_0 (i := 18) rfl
theorem dX9_read_36 : decode cX9_read 36 = .ok (.invokevirtual 318, 3) := dq daX9_read_0 (i := 19) rfl
theorem dX9_read_39 : decode cX9_read 39 = .ok (.istore_n 1, 1) := dq daX9_read_0 (i := 20) rfl
theorem dX9_read_40 : decode cX9_read 40 = .ok (.iload_n 1, 1) := dq daX9_read_0 (i := 21) rfl
theorem dX9_read_41 : decode cX9_read 41 = .ok (.ifCond .lt 21, 3) := dq daX9_read_0 (i := 22) rfl
theorem dX9_read_44 : decode cX9_read 44 = .ok (.aload_n 0, 1) := dq daX9_read_0 (i := 23) rfl
theorem dX9_read_45 : decode cX9_read 45 = .ok (.bipush 7, 2) := dq daX9_read_0 (i := 24) rfl
theorem dX9_read_47 : decode cX9_read 47 = .ok (.iload_n 1, 1) := dq daX9_read_0 (i := 25) rfl
theorem dX9_read_48 : decode cX9_read 48 = .ok (.invokevirtual 315, 3) := dq daX9_read_0 (i := 26) rfl
theorem dX9_read_51 : decode cX9_read 51 = .ok (.aload_n 0, 1) := dq daX9_read_0 (i := 27) rfl
theorem dX9_read_52 : decode cX9_read 52 = .ok (.iconst 0, 1) := dq daX9_read_0 (i := 28) rfl
theorem dX9_read_53 : decode cX9_read 53 = .ok (.putfield 258, 3) := dq daX9_read_0 (i := 29) rfl
theorem dX9_read_56 : decode cX9_read 56 = .ok (.sipush (-2000), 3) := dq daX9_read_0 (i := 30) rfl
theorem dX9_read_59 : decode cX9_read 59 = .ok (.iload_n 1, 1) := dq daX9_read_0 (i := 31) rfl
theorem dX9_read_60 : decode cX9_read 60 = .ok (.isub, 1) := dq daX9_read_0 (i := 32) rfl
theorem dX9_read_61 : decode cX9_read 61 = .ok (.ireturn, 1) := dq daX9_read_0 (i := 33) rfl
theorem dX9_read_62 : decode cX9_read 62 = .ok (.aload_n 0, 1) := dq daX9_read_0 (i := 34) rfl
theorem dX9_read_63 : decode cX9_read 63 = .ok (.iconst 0, 1) := dq daX9_read_0 (i := 35) rfl
theorem dX9_read_64 : decode cX9_read 64 = .ok (.putfield 258, 3) := dq daX9_read_0 (i := 36) rfl
theorem dX9_read_67 : decode cX9_read 67 = .ok (.aload_n 0, 1) := dq daX9_read_0 (i := 37) rfl
theorem dX9_read_68 : decode cX9_read 68 = .ok (.invokevirtual 116, 3) := dq daX9_read_0 (i := 38) rfl
theorem dX9_read_71 : decode cX9_read 71 = .ok (.aload_n 0, 1) := dq daX9_read_0 (i := 39) rfl
theorem daX9_read_40 : dchk cX9_read [(72, .aload_n 0, 1), (73, .getfield 291, 3), (76, .putfield 88, 3), (79, .aload_n 0, 1), (80, .aload_n 0, 1), (81, .getfield 279, 3), (84, .putfield 91, 3), (87, .iconst 0, 1), (88, .istore_n 2, 1), (89, .iload_n 2, 1), (90, .aload_n 0, 1), (91, .getfield 91, 3), (94, .if_icmp .ge 21, 3), (97, .aload_n 0, 1), (98, .getfield 11, 3), (101, .iload_n 2, 1), (102, .aload_n 0, 1), (103, .getfield 47, 3), (106, .iload_n 2, 1), (107, .iaload, 1), (108, .iastore, 1), (109, .iinc 2 1, 3), (112, .goto (-23), 3), (115, .aload_n 0, 1), (116, .getfield 288, 3), (119, .ifCond .eq 42, 3), (122, .aload_n 0, 1), (123, .aload_n 0, 1), (124, .getfield 303, 3), (127, .putfield 15, 3), (130, .aload_n 0, 1), (131, .iconst 0, 1), (132, .putfield 94, 3), (135, .iconst 0, 1), (136, .istore_n 2, 1), (137, .iload_n 2, 1), (138, .aload_n 0, 1), (139, .getfield 285, 3), (142, .if_icmp .ge 19, 3), (145, .aload_n 0, 1)] = true := by decide +kernel
theorem dX9_read_72 : decode cX9_read 72 = .ok (.aload_n 0, 1) := dq daX9_read_40 (i := 0) rfl
theorem dX9_read_73 : decode cX9_read 73 = .ok (.getfield 291, 3) := dq daX9_read_40 (i := 1) rfl
theorem dX9_read_76 : decode cX9_read 76 = .ok (.putfield 88, 3) := dq daX9_read_40 (i := 2) rfl
theorem dX9_read_79 : decode cX9_read 79 = .ok (.aload_n 0, 1) := dq daX9_read_40 (i := 3) rfl
theorem dX9_read_80 : decode cX9_read 80 = .ok (.aload_n 0, 1) := dq daX9_read_40 (i := 4) rfl
theorem dX9_read_81 : decode cX9_read 81 = .ok (.getfield 279, 3) := dq daX9_read_40 (i := 5) rfl
theorem dX9_read_84 : decode cX9_read 84 = .ok (.putfield 91, 3) := dq daX9_read_40 (i := 6) rfl
theorem dX9_read_87 : decode cX9_read 87 = .ok (.iconst 0, 1) := dq daX9_read_40 (i := 7) rfl
theorem dX9_read_88 : decode cX9_read 88 = .ok (.istore_n 2, 1) := dq daX9_read_40 (i := 8) rfl
theorem dX9_read_89 : decode cX9_read 89 = .ok (.iload_n 2, 1) := dq daX9_read_40 (i := 9) rfl
theorem dX9_read_90 : decode cX9_read 90 = .ok (.aload_n 0, 1) := dq daX9_read_40 (i := 10) rfl
theorem dX9_read_91 : decode cX9_read 91 = .ok (.getfield 91, 3) := dq daX9_read_40 (i := 11) rfl
theorem dX9_read_94 : decode cX9_read 94 = .ok (.if_icmp .ge 21, 3) := dq daX9_read_40 (i := 12) rfl
theorem dX9_read_97 : decode cX9_read 97 = .ok (.aload_n 0, 1) := dq daX9_read_40 (i := 13) rfl
theorem dX9_read_98 : decode cX9_read 98 = .ok (.getfield 11, 3) := dq daX9_read_40 (i := 14) rfl
theorem dX9_read_101 : decode cX9_read 101 = .ok (.iload_n 2, 1) := dq daX9_read_40 (i := 15) rfl
theorem dX9_read_102 : decode cX9_read 102 = .ok (.aload_n 0, 1) := dq daX9_read_40 (i := 16) rfl
theorem dX9_read_103 : decode cX9_read 103 = .ok (.getfield 47, 3) := dq daX9_read_40 (i := 17) rfl
theorem dX9_read_106 : decode cX9_read 106 = .ok (.iload_n 2, 1) := dq daX9_read_40 (i := 18) rfl
theorem dX9_read_107 : decode cX9_read 107 = .ok (.iaload, 1) := dq daX9_read_40 (i := 19) rfl
theorem dX9_read_108 : decode cX9_read 108 = .ok (.iastore, 1) := dq daX9_read_40 (i := 20) rfl
theorem dX9_read_109 : decode cX9_read 109 = .ok (.iinc 2 1, 3) := dq daX9_read_40 (i := 21) rfl
theorem dX9_read_112 : decode cX9_read 112 = .ok (.goto (-23), 3) := dq daX9_read_40 (i := 22) rfl
theorem dX9_read_115 : decode cX9_read 115 = .ok (.aload_n 0, 1) := dq daX9_read_40 (i := 23) rfl
theorem dX9_read_116 : decode cX9_read 116 = .ok (.getfield 288, 3) := dq daX9_read_40 (i := 24) rfl
theorem dX9_read_119 : decode cX9_read 119 = .ok (.ifCond .eq 42, 3) := dq daX9_read_40 (i := 25) rfl
theorem dX9_read_122 : decode cX9_read 122 = .ok (.aload_n 0, 1) := dq daX9_read_40 (i := 26) rfl
theorem dX9_read_123 : decode cX9_read 123 = .ok (.aload_n 0, 1) := dq daX9_read_40 (i := 27) rfl
theorem dX9_read_124 : decode cX9_read 124 = .ok (.getfield 303, 3) := dq daX9_read_40 (i := 28) rfl
theorem dX9_read_127 : decode cX9_read 127 = .ok (.putfield 15, 3) := dq daX9_read_40 (i := 29) rfl
theorem dX9_read_130 : decode cX9_read 130 = .ok (.aload_n 0, 1) := dq daX9_read_40 (i := 30) rfl
theorem dX9_read_131 : decode cX9_read 131 = .ok (.iconst 0, 1) := dq daX9_read_40 (i := 31) rfl
theorem dX9_read_132 : decode cX9_read 132 = .ok (.putfield 94, 3) := dq daX9_read_40 (i := 32) rfl
theorem dX9_read_135 : decode cX9_read 135 = .ok (.iconst 0, 1) := dq daX9_read_40 (i := 33) rfl
theorem dX9_read_136 : decode cX9_read 136 = .ok (.istore_n 2, 1) := dq daX9_read_40 (i := 34) rfl
theorem dX9_read_137 : decode cX9_read 137 = .ok (.iload_n 2, 1) := dq daX9_read_40 (i := 35) rfl
theorem dX9_read_138 : decode cX9_read 138 = .ok (.aload_n 0, 1) := dq daX9_read_40 (i := 36) rfl
theorem dX9_read_139 : decode cX9_read 139 = .ok (.getfield 285, 3) := dq daX9_read_40 (i := 37) rfl
theorem dX9_read_142 : decode cX9_read 142 = .ok (.if_icmp .ge 19, 3) := dq daX9_read_40 (i := 38) rfl
theorem dX9_read_145 : decode cX9_read 145 = .ok (.aload_n 0, 1) := dq daX9_read_40 (i := 39) rfl
theorem daX9_read_80 : dchk cX9_read [(146, .aload_n 0, 1), (147, .getfield 53, 3), (150, .iload_n 2, 1), (151, .iaload, 1), (152, .invokevirtual 222, 3), (155, .iinc 2 1, 3), (158, .goto (-21), 3), (161, .aload_n 0, 1), (162, .invokevirtual 119, 3), (165, .aload_n 0, 1), (166, .getfield 91, 3), (169, .ireturn, 1)] = true := by decide +kernel
theorem dX9_read_146 : decode cX9_read 146 = .ok (.aload_n 0, 1) := dq daX9_read_80 (i := 0) rfl
theorem dX9_read_147 : decode cX9_read 147 = .ok (.getfield 53, 3) := dq daX9_read_80 (i := 1) rfl
theorem dX9_read_150 : decode cX9_read 150 = .ok (.iload_n 2, 1) := dq daX9_read_80 (i := 2) rfl
theorem dX9_read_151 : decode cX9_read 151 = .ok (.iaload, 1) := dq daX9_read_80 (i := 3) rfl
theorem dX9_read_152 : decode cX9_read 152 = .ok (.invokevirtual 222, 3) := dq daX9_read_80 (i := 4) rfl
theorem dX9_read_155 : decode cX9_read 155 = .ok (.iinc 2 1, 3) := dq daX9_read_80 (i := 5) rfl
theorem dX9_read_158 : decode cX9_read 158 = .ok (.goto (-21), 3) := dq daX9_read_80 (i := 6) rfl
theorem dX9_read_161 : decode cX9_read 161 = .ok (.aload_n 0, 1) := dq daX9_read_80 (i := 7) rfl
theorem dX9_read_162 : decode cX9_read 162 = .ok (.invokevirtual 119, 3) := dq daX9_read_80 (i := 8) rfl
theorem dX9_read_165 : decode cX9_read 165 = .ok (.aload_n 0, 1) := dq daX9_read_80 (i := 9) rfl
theorem dX9_read_166 : decode cX9_read 166 = .ok (.getfield 91, 3) := dq daX9_read_80 (i := 10) rfl
theorem dX9_read_169 : decode cX9_read 169 = .ok (.ireturn, 1) := dq daX9_read_80 (i := 11) rfl
theorem daX9_why_0 : dchk cX9_why [(0, .iload_n 1, 1), (1, .i2l, 1), (2, .lconst 0, 1), (3, .ldc2_w 114, 3), (6, .invokestatic 110, 3), (9, .ifCond .eq 13, 3), (12, .iload_n 2, 1), (13, .i2l, 1), (14, .lconst 0, 1), (15, .lconst 1, 1), (16, .invokestatic 110, 3), (19, .ifCond .ne 5, 3), (22, .iconst (-1), 1), (23, .ireturn, 1), (24, .aload_n 0, 1), (25, .getfield 309, 3), (28, .ifCond .eq 16, 3), (31, .aload_n 0, 1), (32, .getfield 59, 3), (35, .iconst 2, 1), (36, .iload_n 1, 1), (37, .imul, 1), (38, .iload_n 2, 1), (39, .iadd, 1), (40, .iaload, 1), (41, .goto 5, 3), (44, .bipush (-2), 2), (46, .ireturn, 1)] = true := by decide +kernel
theorem dX9_why_0 : decode cX9_why 0 = .ok (.iload_n 1, 1) := dq daX9_why_0 (i := 0) rfl
theorem dX9_why_1 : decode cX9_why 1 = .ok (.i2l, 1) := dq daX9_why_0 (i := 1) rfl
theorem dX9_why_2 : decode cX9_why 2 = .ok (.lconst 0, 1) := dq daX9_why_0 (i := 2) rfl
theorem dX9_why_3 : decode cX9_why 3 = .ok (.ldc2_w 114, 3) := dq daX9_why_0 (i := 3) rfl
theorem dX9_why_6 : decode cX9_why 6 = .ok (.invokestatic 110, 3) := dq daX9_why_0 (i := 4) rfl
theorem dX9_why_9 : decode cX9_why 9 = .ok (.ifCond .eq 13, 3) := dq daX9_why_0 (i := 5) rfl
theorem dX9_why_12 : decode cX9_why 12 = .ok (.iload_n 2, 1) := dq daX9_why_0 (i := 6) rfl
theorem dX9_why_13 : decode cX9_why 13 = .ok (.i2l, 1) := dq daX9_why_0 (i := 7) rfl
theorem dX9_why_14 : decode cX9_why 14 = .ok (.lconst 0, 1) := dq daX9_why_0 (i := 8) rfl
theorem dX9_why_15 : decode cX9_why 15 = .ok (.lconst 1, 1) := dq daX9_why_0 (i := 9) rfl
theorem dX9_why_16 : decode cX9_why 16 = .ok (.invokestatic 110, 3) := dq daX9_why_0 (i := 10) rfl
theorem dX9_why_19 : decode cX9_why 19 = .ok (.ifCond .ne 5, 3) := dq daX9_why_0 (i := 11) rfl
theorem dX9_why_22 : decode cX9_why 22 = .ok (.iconst (-1), 1) := dq daX9_why_0 (i := 12) rfl
theorem dX9_why_23 : decode cX9_why 23 = .ok (.ireturn, 1) := dq daX9_why_0 (i := 13) rfl
theorem dX9_why_24 : decode cX9_why 24 = .ok (.aload_n 0, 1) := dq daX9_why_0 (i := 14) rfl
theorem dX9_why_25 : decode cX9_why 25 = .ok (.getfield 309, 3) := dq daX9_why_0 (i := 15) rfl
theorem dX9_why_28 : decode cX9_why 28 = .ok (.ifCond .eq 16, 3) := dq daX9_why_0 (i := 16) rfl
theorem dX9_why_31 : decode cX9_why 31 = .ok (.aload_n 0, 1) := dq daX9_why_0 (i := 17) rfl
theorem dX9_why_32 : decode cX9_why 32 = .ok (.getfield 59, 3) := dq daX9_why_0 (i := 18) rfl
theorem dX9_why_35 : decode cX9_why 35 = .ok (.iconst 2, 1) := dq daX9_why_0 (i := 19) rfl
theorem dX9_why_36 : decode cX9_why 36 = .ok (.iload_n 1, 1) := dq daX9_why_0 (i := 20) rfl
theorem dX9_why_37 : decode cX9_why 37 = .ok (.imul, 1) := dq daX9_why_0 (i := 21) rfl
theorem dX9_why_38 : decode cX9_why 38 = .ok (.iload_n 2, 1) := dq daX9_why_0 (i := 22) rfl
theorem dX9_why_39 : decode cX9_why 39 = .ok (.iadd, 1) := dq daX9_why_0 (i := 23) rfl
theorem dX9_why_40 : decode cX9_why 40 = .ok (.iaload, 1) := dq daX9_why_0 (i := 24) rfl
theorem dX9_why_41 : decode cX9_why 41 = .ok (.goto 5, 3) := dq daX9_why_0 (i := 25) rfl
theorem dX9_why_44 : decode cX9_why 44 = .ok (.bipush (-2), 2) := dq daX9_why_0 (i := 26) rfl
theorem dX9_why_46 : decode cX9_why 46 = .ok (.ireturn, 1) := dq daX9_why_0 (i := 27) rfl
theorem daX9_writes_0 : dchk cX9_writes [(0, .aload_n 0, 1), (1, .getfield 62, 3), (4, .aload_n 0, 1), (5, .getfield 321, 3), (8, .iload_n 1, 1), (9, .iastore, 1), (10, .aload_n 0, 1), (11, .dup, 1), (12, .getfield 321, 3), (15, .iconst 1, 1), (16, .iadd, 1), (17, .putfield 321, 3), (20, .return_, 1)] = true := by decide +kernel
theorem dX9_writes_0 : decode cX9_writes 0 = .ok (.aload_n 0, 1) := dq daX9_writes_0 (i := 0) rfl
theorem dX9_writes_1 : decode cX9_writes 1 = .ok (.getfield 62, 3) := dq daX9_writes_0 (i := 1) rfl
theorem dX9_writes_4 : decode cX9_writes 4 = .ok (.aload_n 0, 1) := dq daX9_writes_0 (i := 2) rfl
theorem dX9_writes_5 : decode cX9_writes 5 = .ok (.getfield 321, 3) := dq daX9_writes_0 (i := 3) rfl
theorem dX9_writes_8 : decode cX9_writes 8 = .ok (.iload_n 1, 1) := dq daX9_writes_0 (i := 4) rfl
theorem dX9_writes_9 : decode cX9_writes 9 = .ok (.iastore, 1) := dq daX9_writes_0 (i := 5) rfl
theorem dX9_writes_10 : decode cX9_writes 10 = .ok (.aload_n 0, 1) := dq daX9_writes_0 (i := 6) rfl
theorem dX9_writes_11 : decode cX9_writes 11 = .ok (.dup, 1) := dq daX9_writes_0 (i := 7) rfl
theorem dX9_writes_12 : decode cX9_writes 12 = .ok (.getfield 321, 3) := dq daX9_writes_0 (i := 8) rfl
theorem dX9_writes_15 : decode cX9_writes 15 = .ok (.iconst 1, 1) := dq daX9_writes_0 (i := 9) rfl
theorem dX9_writes_16 : decode cX9_writes 16 = .ok (.iadd, 1) := dq daX9_writes_0 (i := 10) rfl
theorem dX9_writes_17 : decode cX9_writes 17 = .ok (.putfield 321, 3) := dq daX9_writes_0 (i := 11) rfl
theorem dX9_writes_20 : decode cX9_writes 20 = .ok (.return_, 1) := dq daX9_writes_0 (i := 12) rfl
theorem daX9_spells_0 : dchk cX9_spells [(0, .aload_n 0, 1), (1, .iconst 0, 1), (2, .putfield 321, 3), (5, .aload_n 0, 1), (6, .bipush 48, 2), (8, .aload_n 0, 1), (9, .getfield 88, 3), (12, .iadd, 1), (13, .invokevirtual 324, 3), (16, .aload_n 0, 1), (17, .bipush 58, 2), (19, .invokevirtual 324, 3), (22, .iconst 0, 1), (23, .istore_n 1, 1), (24, .iload_n 1, 1), (25, .aload_n 0, 1), (26, .getfield 91, 3), (29, .if_icmp .ge 52, 3), (32, .iload_n 1, 1), (33, .ifCond .le 9, 3), (36, .aload_n 0, 1), (37, .bipush 44, 2), (39, .invokevirtual 324, 3), (42, .aload_n 0, 1), (43, .getfield 11, 3), (46, .iload_n 1, 1), (47, .iaload, 1), (48, .bipush 9, 2), (50, .if_icmp .le 9, 3), (53, .aload_n 0, 1), (54, .bipush 49, 2), (56, .invokevirtual 324, 3), (59, .aload_n 0, 1), (60, .bipush 48, 2), (62, .aload_n 0, 1), (63, .getfield 11, 3), (66, .iload_n 1, 1), (67, .iaload, 1), (68, .bipush 10, 2), (70, .irem, 1)] = true := by decide +kernel
theorem dX9_spells_0 : decode cX9_spells 0 = .ok (.aload_n 0, 1) := dq daX9_spells_0 (i := 0) rfl
theorem dX9_spells_1 : decode cX9_spells 1 = .ok (.iconst 0, 1) := dq daX9_spells_0 (i := 1) rfl
theorem dX9_spells_2 : decode cX9_spells 2 = .ok (.putfield 321, 3) := dq daX9_spells_0 (i := 2) rfl
theorem dX9_spells_5 : decode cX9_spells 5 = .ok (.aload_n 0, 1) := dq daX9_spells_0 (i := 3) rfl
theorem dX9_spells_6 : decode cX9_spells 6 = .ok (.bipush 48, 2) := dq daX9_spells_0 (i := 4) rfl
theorem dX9_spells_8 : decode cX9_spells 8 = .ok (.aload_n 0, 1) := dq daX9_spells_0 (i := 5) rfl
theorem dX9_spells_9 : decode cX9_spells 9 = .ok (.getfield 88, 3) := dq daX9_spells_0 (i := 6) rfl
theorem dX9_spells_12 : decode cX9_spells 12 = .ok (.iadd, 1) := dq daX9_spells_0 (i := 7) rfl
theorem dX9_spells_13 : decode cX9_spells 13 = .ok (.invokevirtual 324, 3) := dq daX9_spells_0 (i := 8) rfl
theorem dX9_spells_16 : decode cX9_spells 16 = .ok (.aload_n 0, 1) := dq daX9_spells_0 (i := 9) rfl
theorem dX9_spells_17 : decode cX9_spells 17 = .ok (.bipush 58, 2) := dq daX9_spells_0 (i := 10) rfl
theorem dX9_spells_19 : decode cX9_spells 19 = .ok (.invokevirtual 324, 3) := dq daX9_spells_0 (i := 11) rfl
theorem dX9_spells_22 : decode cX9_spells 22 = .ok (.iconst 0, 1) := dq daX9_spells_0 (i := 12) rfl
theorem dX9_spells_23 : decode cX9_spells 23 = .ok (.istore_n 1, 1) := dq daX9_spells_0 (i := 13) rfl
theorem dX9_spells_24 : decode cX9_spells 24 = .ok (.iload_n 1, 1) := dq daX9_spells_0 (i := 14) rfl
theorem dX9_spells_25 : decode cX9_spells 25 = .ok (.aload_n 0, 1) := dq daX9_spells_0 (i := 15) rfl
theorem dX9_spells_26 : decode cX9_spells 26 = .ok (.getfield 91, 3) := dq daX9_spells_0 (i := 16) rfl
theorem dX9_spells_29 : decode cX9_spells 29 = .ok (.if_icmp .ge 52, 3) := dq daX9_spells_0 (i := 17) rfl
theorem dX9_spells_32 : decode cX9_spells 32 = .ok (.iload_n 1, 1) := dq daX9_spells_0 (i := 18) rfl
theorem dX9_spells_33 : decode cX9_spells 33 = .ok (.ifCond .le 9, 3) := dq daX9_spells_0 (i := 19) rfl
theorem dX9_spells_36 : decode cX9_spells 36 = .ok (.aload_n 0, 1) := dq daX9_spells_0 (i := 20) rfl
theorem dX9_spells_37 : decode cX9_spells 37 = .ok (.bipush 44, 2) := dq daX9_spells_0 (i := 21) rfl
theorem dX9_spells_39 : decode cX9_spells 39 = .ok (.invokevirtual 324, 3) := dq daX9_spells_0 (i := 22) rfl
theorem dX9_spells_42 : decode cX9_spells 42 = .ok (.aload_n 0, 1) := dq daX9_spells_0 (i := 23) rfl
theorem dX9_spells_43 : decode cX9_spells 43 = .ok (.getfield 11, 3) := dq daX9_spells_0 (i := 24) rfl
theorem dX9_spells_46 : decode cX9_spells 46 = .ok (.iload_n 1, 1) := dq daX9_spells_0 (i := 25) rfl
theorem dX9_spells_47 : decode cX9_spells 47 = .ok (.iaload, 1) := dq daX9_spells_0 (i := 26) rfl
theorem dX9_spells_48 : decode cX9_spells 48 = .ok (.bipush 9, 2) := dq daX9_spells_0 (i := 27) rfl
theorem dX9_spells_50 : decode cX9_spells 50 = .ok (.if_icmp .le 9, 3) := dq daX9_spells_0 (i := 28) rfl
theorem dX9_spells_53 : decode cX9_spells 53 = .ok (.aload_n 0, 1) := dq daX9_spells_0 (i := 29) rfl
theorem dX9_spells_54 : decode cX9_spells 54 = .ok (.bipush 49, 2) := dq daX9_spells_0 (i := 30) rfl
theorem dX9_spells_56 : decode cX9_spells 56 = .ok (.invokevirtual 324, 3) := dq daX9_spells_0 (i := 31) rfl
theorem dX9_spells_59 : decode cX9_spells 59 = .ok (.aload_n 0, 1) := dq daX9_spells_0 (i := 32) rfl
theorem dX9_spells_60 : decode cX9_spells 60 = .ok (.bipush 48, 2) := dq daX9_spells_0 (i := 33) rfl
theorem dX9_spells_62 : decode cX9_spells 62 = .ok (.aload_n 0, 1) := dq daX9_spells_0 (i := 34) rfl
theorem dX9_spells_63 : decode cX9_spells 63 = .ok (.getfield 11, 3) := dq daX9_spells_0 (i := 35) rfl
theorem dX9_spells_66 : decode cX9_spells 66 = .ok (.iload_n 1, 1) := dq daX9_spells_0 (i := 36) rfl
theorem dX9_spells_67 : decode cX9_spells 67 = .ok (.iaload, 1) := dq daX9_spells_0 (i := 37) rfl
theorem dX9_spells_68 : decode cX9_spells 68 = .ok (.bipush 10, 2) := dq daX9_spells_0 (i := 38) rfl
theorem dX9_spells_70 : decode cX9_spells 70 = .ok (.irem, 1) := dq daX9_spells_0 (i := 39) rfl
theorem daX9_spells_40 : dchk cX9_spells [(71, .iadd, 1), (72, .invokevirtual 324, 3), (75, .iinc 1 1, 3), (78, .goto (-54), 3), (81, .aload_n 0, 1), (82, .bipush 47, 2), (84, .invokevirtual 324, 3), (87, .aload_n 0, 1), (88, .bipush 48, 2), (90, .aload_n 0, 1), (91, .getfield 15, 3), (94, .iadd, 1), (95, .invokevirtual 324, 3), (98, .iconst 0, 1), (99, .istore_n 1, 1), (100, .iload_n 1, 1), (101, .aload_n 0, 1), (102, .getfield 94, 3), (105, .if_icmp .ge 53, 3), (108, .aload_n 0, 1), (109, .bipush 59, 2), (111, .invokevirtual 324, 3), (114, .iconst 0, 1), (115, .istore_n 2, 1), (116, .iload_n 2, 1), (117, .aload_n 0, 1), (118, .getfield 15, 3), (121, .if_icmp .ge 31, 3), (124, .aload_n 0, 1), (125, .getfield 19, 3), (128, .iload_n 1, 1), (129, .iaload, 1), (130, .iload_n 2, 1), (131, .ishr, 1), (132, .iconst 1, 1), (133, .iand, 1), (134, .iconst 1, 1), (135, .if_icmp .ne 11, 3), (138, .aload_n 0, 1), (139, .bipush 48, 2)] = true := by decide +kernel
theorem dX9_spells_71 : decode cX9_spells 71 = .ok (.iadd, 1) := dq daX9_spells_40 (i := 0) rfl
theorem dX9_spells_72 : decode cX9_spells 72 = .ok (.invokevirtual 324, 3) := dq daX9_spells_40 (i := 1) rfl
theorem dX9_spells_75 : decode cX9_spells 75 = .ok (.iinc 1 1, 3) := dq daX9_spells_40 (i := 2) rfl
theorem dX9_spells_78 : decode cX9_spells 78 = .ok (.goto (-54), 3) := dq daX9_spells_40 (i := 3) rfl
theorem dX9_spells_81 : decode cX9_spells 81 = .ok (.aload_n 0, 1) := dq daX9_spells_40 (i := 4) rfl
theorem dX9_spells_82 : decode cX9_spells 82 = .ok (.bipush 47, 2) := dq daX9_spells_40 (i := 5) rfl
theorem dX9_spells_84 : decode cX9_spells 84 = .ok (.invokevirtual 324, 3) := dq daX9_spells_40 (i := 6) rfl
theorem dX9_spells_87 : decode cX9_spells 87 = .ok (.aload_n 0, 1) := dq daX9_spells_40 (i := 7) rfl
theorem dX9_spells_88 : decode cX9_spells 88 = .ok (.bipush 48, 2) := dq daX9_spells_40 (i := 8) rfl
theorem dX9_spells_90 : decode cX9_spells 90 = .ok (.aload_n 0, 1) := dq daX9_spells_40 (i := 9) rfl
theorem dX9_spells_91 : decode cX9_spells 91 = .ok (.getfield 15, 3) := dq daX9_spells_40 (i := 10) rfl
theorem dX9_spells_94 : decode cX9_spells 94 = .ok (.iadd, 1) := dq daX9_spells_40 (i := 11) rfl
theorem dX9_spells_95 : decode cX9_spells 95 = .ok (.invokevirtual 324, 3) := dq daX9_spells_40 (i := 12) rfl
theorem dX9_spells_98 : decode cX9_spells 98 = .ok (.iconst 0, 1) := dq daX9_spells_40 (i := 13) rfl
theorem dX9_spells_99 : decode cX9_spells 99 = .ok (.istore_n 1, 1) := dq daX9_spells_40 (i := 14) rfl
theorem dX9_spells_100 : decode cX9_spells 100 = .ok (.iload_n 1, 1) := dq daX9_spells_40 (i := 15) rfl
theorem dX9_spells_101 : decode cX9_spells 101 = .ok (.aload_n 0, 1) := dq daX9_spells_40 (i := 16) rfl
theorem dX9_spells_102 : decode cX9_spells 102 = .ok (.getfield 94, 3) := dq daX9_spells_40 (i := 17) rfl
theorem dX9_spells_105 : decode cX9_spells 105 = .ok (.if_icmp .ge 53, 3) := dq daX9_spells_40 (i := 18) rfl
theorem dX9_spells_108 : decode cX9_spells 108 = .ok (.aload_n 0, 1) := dq daX9_spells_40 (i := 19) rfl
theorem dX9_spells_109 : decode cX9_spells 109 = .ok (.bipush 59, 2) := dq daX9_spells_40 (i := 20) rfl
theorem dX9_spells_111 : decode cX9_spells 111 = .ok (.invokevirtual 324, 3) := dq daX9_spells_40 (i := 21) rfl
theorem dX9_spells_114 : decode cX9_spells 114 = .ok (.iconst 0, 1) := dq daX9_spells_40 (i := 22) rfl
theorem dX9_spells_115 : decode cX9_spells 115 = .ok (.istore_n 2, 1) := dq daX9_spells_40 (i := 23) rfl
theorem dX9_spells_116 : decode cX9_spells 116 = .ok (.iload_n 2, 1) := dq daX9_spells_40 (i := 24) rfl
theorem dX9_spells_117 : decode cX9_spells 117 = .ok (.aload_n 0, 1) := dq daX9_spells_40 (i := 25) rfl
theorem dX9_spells_118 : decode cX9_spells 118 = .ok (.getfield 15, 3) := dq daX9_spells_40 (i := 26) rfl
theorem dX9_spells_121 : decode cX9_spells 121 = .ok (.if_icmp .ge 31, 3) := dq daX9_spells_40 (i := 27) rfl
theorem dX9_spells_124 : decode cX9_spells 124 = .ok (.aload_n 0, 1) := dq daX9_spells_40 (i := 28) rfl
theorem dX9_spells_125 : decode cX9_spells 125 = .ok (.getfield 19, 3) := dq daX9_spells_40 (i := 29) rfl
theorem dX9_spells_128 : decode cX9_spells 128 = .ok (.iload_n 1, 1) := dq daX9_spells_40 (i := 30) rfl
theorem dX9_spells_129 : decode cX9_spells 129 = .ok (.iaload, 1) := dq daX9_spells_40 (i := 31) rfl
theorem dX9_spells_130 : decode cX9_spells 130 = .ok (.iload_n 2, 1) := dq daX9_spells_40 (i := 32) rfl
theorem dX9_spells_131 : decode cX9_spells 131 = .ok (.ishr, 1) := dq daX9_spells_40 (i := 33) rfl
theorem dX9_spells_132 : decode cX9_spells 132 = .ok (.iconst 1, 1) := dq daX9_spells_40 (i := 34) rfl
theorem dX9_spells_133 : decode cX9_spells 133 = .ok (.iand, 1) := dq daX9_spells_40 (i := 35) rfl
theorem dX9_spells_134 : decode cX9_spells 134 = .ok (.iconst 1, 1) := dq daX9_spells_40 (i := 36) rfl
theorem dX9_spells_135 : decode cX9_spells 135 = .ok (.if_icmp .ne 11, 3) := dq daX9_spells_40 (i := 37) rfl
theorem dX9_spells_138 : decode cX9_spells 138 = .ok (.aload_n 0, 1) := dq daX9_spells_40 (i := 38) rfl
theorem dX9_spells_139 : decode cX9_spells 139 = .ok (.bipush 48, 2) := dq daX9_spells_40 (i := 39) rfl
theorem daX9_spells_80 : dchk cX9_spells [(141, .iload_n 2, 1), (142, .iadd, 1), (143, .invokevirtual 324, 3), (146, .iinc 2 1, 3), (149, .goto (-33), 3), (152, .iinc 1 1, 3), (155, .goto (-55), 3), (158, .return_, 1)] = true := by decide +kernel
theorem dX9_spells_141 : decode cX9_spells 141 = .ok (.iload_n 2, 1) := dq daX9_spells_80 (i := 0) rfl
theorem dX9_spells_142 : decode cX9_spells 142 = .ok (.iadd, 1) := dq daX9_spells_80 (i := 1) rfl
theorem dX9_spells_143 : decode cX9_spells 143 = .ok (.invokevirtual 324, 3) := dq daX9_spells_80 (i := 2) rfl
theorem dX9_spells_146 : decode cX9_spells 146 = .ok (.iinc 2 1, 3) := dq daX9_spells_80 (i := 3) rfl
theorem dX9_spells_149 : decode cX9_spells 149 = .ok (.goto (-33), 3) := dq daX9_spells_80 (i := 4) rfl
theorem dX9_spells_152 : decode cX9_spells 152 = .ok (.iinc 1 1, 3) := dq daX9_spells_80 (i := 5) rfl
theorem dX9_spells_155 : decode cX9_spells 155 = .ok (.goto (-55), 3) := dq daX9_spells_80 (i := 6) rfl
theorem dX9_spells_158 : decode cX9_spells 158 = .ok (.return_, 1) := dq daX9_spells_80 (i := 7) rfl
theorem daX9_spell_0 : dchk cX9_spell [(0, .iload_n 1, 1), (1, .iconst (-1), 1), (2, .if_icmp .ge 5, 3), (5, .iconst (-1), 1), (6, .ireturn, 1), (7, .aload_n 0, 1), (8, .invokevirtual 327, 3), (11, .iload_n 1, 1), (12, .iconst (-1), 1), (13, .if_icmp .ne 10, 3), (16, .aload_n 0, 1), (17, .getfield 321, 3), (20, .goto 22, 3), (23, .iload_n 1, 1), (24, .aload_n 0, 1), (25, .getfield 321, 3), (28, .if_icmp .ge 12, 3), (31, .aload_n 0, 1), (32, .getfield 62, 3), (35, .iload_n 1, 1), (36, .iaload, 1), (37, .goto 5, 3), (40, .bipush (-2), 2), (42, .ireturn, 1)] = true := by decide +kernel
theorem dX9_spell_0 : decode cX9_spell 0 = .ok (.iload_n 1, 1) := dq daX9_spell_0 (i := 0) rfl
theorem dX9_spell_1 : decode cX9_spell 1 = .ok (.iconst (-1), 1) := dq daX9_spell_0 (i := 1) rfl
theorem dX9_spell_2 : decode cX9_spell 2 = .ok (.if_icmp .ge 5, 3) := dq daX9_spell_0 (i := 2) rfl
theorem dX9_spell_5 : decode cX9_spell 5 = .ok (.iconst (-1), 1) := dq daX9_spell_0 (i := 3) rfl
theorem dX9_spell_6 : decode cX9_spell 6 = .ok (.ireturn, 1) := dq daX9_spell_0 (i := 4) rfl
theorem dX9_spell_7 : decode cX9_spell 7 = .ok (.aload_n 0, 1) := dq daX9_spell_0 (i := 5) rfl
theorem dX9_spell_8 : decode cX9_spell 8 = .ok (.invokevirtual 327, 3) := dq daX9_spell_0 (i := 6) rfl
theorem dX9_spell_11 : decode cX9_spell 11 = .ok (.iload_n 1, 1) := dq daX9_spell_0 (i := 7) rfl
theorem dX9_spell_12 : decode cX9_spell 12 = .ok (.iconst (-1), 1) := dq daX9_spell_0 (i := 8) rfl
theorem dX9_spell_13 : decode cX9_spell 13 = .ok (.if_icmp .ne 10, 3) := dq daX9_spell_0 (i := 9) rfl
theorem dX9_spell_16 : decode cX9_spell 16 = .ok (.aload_n 0, 1) := dq daX9_spell_0 (i := 10) rfl
theorem dX9_spell_17 : decode cX9_spell 17 = .ok (.getfield 321, 3) := dq daX9_spell_0 (i := 11) rfl
theorem dX9_spell_20 : decode cX9_spell 20 = .ok (.goto 22, 3) := dq daX9_spell_0 (i := 12) rfl
theorem dX9_spell_23 : decode cX9_spell 23 = .ok (.iload_n 1, 1) := dq daX9_spell_0 (i := 13) rfl
theorem dX9_spell_24 : decode cX9_spell 24 = .ok (.aload_n 0, 1) := dq daX9_spell_0 (i := 14) rfl
theorem dX9_spell_25 : decode cX9_spell 25 = .ok (.getfield 321, 3) := dq daX9_spell_0 (i := 15) rfl
theorem dX9_spell_28 : decode cX9_spell 28 = .ok (.if_icmp .ge 12, 3) := dq daX9_spell_0 (i := 16) rfl
theorem dX9_spell_31 : decode cX9_spell 31 = .ok (.aload_n 0, 1) := dq daX9_spell_0 (i := 17) rfl
theorem dX9_spell_32 : decode cX9_spell 32 = .ok (.getfield 62, 3) := dq daX9_spell_0 (i := 18) rfl
theorem dX9_spell_35 : decode cX9_spell 35 = .ok (.iload_n 1, 1) := dq daX9_spell_0 (i := 19) rfl
theorem dX9_spell_36 : decode cX9_spell 36 = .ok (.iaload, 1) := dq daX9_spell_0 (i := 20) rfl
theorem dX9_spell_37 : decode cX9_spell 37 = .ok (.goto 5, 3) := dq daX9_spell_0 (i := 21) rfl
theorem dX9_spell_40 : decode cX9_spell 40 = .ok (.bipush (-2), 2) := dq daX9_spell_0 (i := 22) rfl
theorem dX9_spell_42 : decode cX9_spell 42 = .ok (.ireturn, 1) := dq daX9_spell_0 (i := 23) rfl
theorem daX9_isHolder_0 : dchk cX9_isHolder [(0, .iload_n 0, 1), (1, .i2l, 1), (2, .lconst 0, 1), (3, .ldc2_w 144, 3), (6, .invokestatic 110, 3), (9, .ireturn, 1)] = true := by decide +kernel
theorem dX9_isHolder_0 : decode cX9_isHolder 0 = .ok (.iload_n 0, 1) := dq daX9_isHolder_0 (i := 0) rfl
theorem dX9_isHolder_1 : decode cX9_isHolder 1 = .ok (.i2l, 1) := dq daX9_isHolder_0 (i := 1) rfl
theorem dX9_isHolder_2 : decode cX9_isHolder 2 = .ok (.lconst 0, 1) := dq daX9_isHolder_0 (i := 2) rfl
theorem dX9_isHolder_3 : decode cX9_isHolder 3 = .ok (.ldc2_w 144, 3) := dq daX9_isHolder_0 (i := 3) rfl
theorem dX9_isHolder_6 : decode cX9_isHolder 6 = .ok (.invokestatic 110, 3) := dq daX9_isHolder_0 (i := 4) rfl
theorem dX9_isHolder_9 : decode cX9_isHolder 9 = .ok (.ireturn, 1) := dq daX9_isHolder_0 (i := 5) rfl
theorem daX9_hold_0 : dchk cX9_hold [(0, .iload_n 1, 1), (1, .invokestatic 330, 3), (4, .ifCond .eq 13, 3), (7, .iload_n 2, 1), (8, .i2l, 1), (9, .lconst 0, 1), (10, .lconst 1, 1), (11, .invokestatic 110, 3), (14, .ifCond .ne 5, 3), (17, .iconst (-1), 1), (18, .ireturn, 1), (19, .aload_n 0, 1), (20, .getfield 65, 3), (23, .iload_n 1, 1), (24, .iload_n 2, 1), (25, .iconst 1, 1), (26, .iadd, 1), (27, .iastore, 1), (28, .iload_n 2, 1), (29, .ifCond .ne 59, 3), (32, .aload_n 0, 1), (33, .getfield 68, 3), (36, .iload_n 1, 1), (37, .aload_n 0, 1), (38, .iconst 0, 1), (39, .invokevirtual 333, 3), (42, .ldc2_w 336, 3), (45, .lrem, 1), (46, .lastore, 1), (47, .aload_n 0, 1), (48, .getfield 68, 3), (51, .iload_n 1, 1), (52, .aload_n 0, 1), (53, .getfield 68, 3), (56, .iload_n 1, 1), (57, .laload, 1), (58, .lconst 0, 1), (59, .lcmp, 1), (60, .ifCond .ge 16, 3), (63, .aload_n 0, 1)] = true := by decide +kernel
theorem dX9_hold_0 : decode cX9_hold 0 = .ok (.iload_n 1, 1) := dq daX9_hold_0 (i := 0) rfl
theorem dX9_hold_1 : decode cX9_hold 1 = .ok (.invokestatic 330, 3) := dq daX9_hold_0 (i := 1) rfl
theorem dX9_hold_4 : decode cX9_hold 4 = .ok (.ifCond .eq 13, 3) := dq daX9_hold_0 (i := 2) rfl
theorem dX9_hold_7 : decode cX9_hold 7 = .ok (.iload_n 2, 1) := dq daX9_hold_0 (i := 3) rfl
theorem dX9_hold_8 : decode cX9_hold 8 = .ok (.i2l, 1) := dq daX9_hold_0 (i := 4) rfl
theorem dX9_hold_9 : decode cX9_hold 9 = .ok (.lconst 0, 1) := dq daX9_hold_0 (i := 5) rfl
theorem dX9_hold_10 : decode cX9_hold 10 = .ok (.lconst 1, 1) := dq daX9_hold_0 (i := 6) rfl
theorem dX9_hold_11 : decode cX9_hold 11 = .ok (.invokestatic 110, 3) := dq daX9_hold_0 (i := 7) rfl
theorem dX9_hold_14 : decode cX9_hold 14 = .ok (.ifCond .ne 5, 3) := dq daX9_hold_0 (i := 8) rfl
theorem dX9_hold_17 : decode cX9_hold 17 = .ok (.iconst (-1), 1) := dq daX9_hold_0 (i := 9) rfl
theorem dX9_hold_18 : decode cX9_hold 18 = .ok (.ireturn, 1) := dq daX9_hold_0 (i := 10) rfl
theorem dX9_hold_19 : decode cX9_hold 19 = .ok (.aload_n 0, 1) := dq daX9_hold_0 (i := 11) rfl
theorem dX9_hold_20 : decode cX9_hold 20 = .ok (.getfield 65, 3) := dq daX9_hold_0 (i := 12) rfl
theorem dX9_hold_23 : decode cX9_hold 23 = .ok (.iload_n 1, 1) := dq daX9_hold_0 (i := 13) rfl
theorem dX9_hold_24 : decode cX9_hold 24 = .ok (.iload_n 2, 1) := dq daX9_hold_0 (i := 14) rfl
theorem dX9_hold_25 : decode cX9_hold 25 = .ok (.iconst 1, 1) := dq daX9_hold_0 (i := 15) rfl
theorem dX9_hold_26 : decode cX9_hold 26 = .ok (.iadd, 1) := dq daX9_hold_0 (i := 16) rfl
theorem dX9_hold_27 : decode cX9_hold 27 = .ok (.iastore, 1) := dq daX9_hold_0 (i := 17) rfl
theorem dX9_hold_28 : decode cX9_hold 28 = .ok (.iload_n 2, 1) := dq daX9_hold_0 (i := 18) rfl
theorem dX9_hold_29 : decode cX9_hold 29 = .ok (.ifCond .ne 59, 3) := dq daX9_hold_0 (i := 19) rfl
theorem dX9_hold_32 : decode cX9_hold 32 = .ok (.aload_n 0, 1) := dq daX9_hold_0 (i := 20) rfl
theorem dX9_hold_33 : decode cX9_hold 33 = .ok (.getfield 68, 3) := dq daX9_hold_0 (i := 21) rfl
theorem dX9_hold_36 : decode cX9_hold 36 = .ok (.iload_n 1, 1) := dq daX9_hold_0 (i := 22) rfl
theorem dX9_hold_37 : decode cX9_hold 37 = .ok (.aload_n 0, 1) := dq daX9_hold_0 (i := 23) rfl
theorem dX9_hold_38 : decode cX9_hold 38 = .ok (.iconst 0, 1) := dq daX9_hold_0 (i := 24) rfl
theorem dX9_hold_39 : decode cX9_hold 39 = .ok (.invokevirtual 333, 3) := dq daX9_hold_0 (i := 25) rfl
theorem dX9_hold_42 : decode cX9_hold 42 = .ok (.ldc2_w 336, 3) := dq daX9_hold_0 (i := 26) rfl
theorem dX9_hold_45 : decode cX9_hold 45 = .ok (.lrem, 1) := dq daX9_hold_0 (i := 27) rfl
theorem dX9_hold_46 : decode cX9_hold 46 = .ok (.lastore, 1) := dq daX9_hold_0 (i := 28) rfl
theorem dX9_hold_47 : decode cX9_hold 47 = .ok (.aload_n 0, 1) := dq daX9_hold_0 (i := 29) rfl
theorem dX9_hold_48 : decode cX9_hold 48 = .ok (.getfield 68, 3) := dq daX9_hold_0 (i := 30) rfl
theorem dX9_hold_51 : decode cX9_hold 51 = .ok (.iload_n 1, 1) := dq daX9_hold_0 (i := 31) rfl
theorem dX9_hold_52 : decode cX9_hold 52 = .ok (.aload_n 0, 1) := dq daX9_hold_0 (i := 32) rfl
theorem dX9_hold_53 : decode cX9_hold 53 = .ok (.getfield 68, 3) := dq daX9_hold_0 (i := 33) rfl
theorem dX9_hold_56 : decode cX9_hold 56 = .ok (.iload_n 1, 1) := dq daX9_hold_0 (i := 34) rfl
theorem dX9_hold_57 : decode cX9_hold 57 = .ok (.laload, 1) := dq daX9_hold_0 (i := 35) rfl
theorem dX9_hold_58 : decode cX9_hold 58 = .ok (.lconst 0, 1) := dq daX9_hold_0 (i := 36) rfl
theorem dX9_hold_59 : decode cX9_hold 59 = .ok (.lcmp, 1) := dq daX9_hold_0 (i := 37) rfl
theorem dX9_hold_60 : decode cX9_hold 60 = .ok (.ifCond .ge 16, 3) := dq daX9_hold_0 (i := 38) rfl
theorem dX9_hold_63 : decode cX9_hold 63 = .ok (.aload_n 0, 1) := dq daX9_hold_0 (i := 39) rfl
theorem daX9_hold_40 : dchk cX9_hold [(64, .getfield 68, 3), (67, .iload_n 1, 1), (68, .laload, 1), (69, .ldc2_w 336, 3), (72, .ladd, 1), (73, .goto 9, 3), (76, .aload_n 0, 1), (77, .getfield 68, 3), (80, .iload_n 1, 1), (81, .laload, 1), (82, .lastore, 1), (83, .aload_n 0, 1), (84, .getfield 91, 3), (87, .ireturn, 1), (88, .aload_n 0, 1), (89, .getfield 75, 3), (92, .iload_n 1, 1), (93, .aload_n 0, 1), (94, .getfield 15, 3), (97, .iastore, 1), (98, .aload_n 0, 1), (99, .getfield 72, 3), (102, .iload_n 1, 1), (103, .aload_n 0, 1), (104, .getfield 94, 3), (107, .iastore, 1), (108, .iconst 0, 1), (109, .istore_n 3, 1), (110, .iload_n 3, 1), (111, .aload_n 0, 1), (112, .getfield 94, 3), (115, .if_icmp .ge 26, 3), (118, .aload_n 0, 1), (119, .getfield 78, 3), (122, .bipush 20, 2), (124, .iload_n 1, 1), (125, .imul, 1), (126, .iload_n 3, 1), (127, .iadd, 1), (128, .aload_n 0, 1)] = true := by decide +kernel
theorem dX9_hold_64 : decode cX9_hold 64 = .ok (.getfield 68, 3) := dq daX9_hold_40 (i := 0) rfl
theorem dX9_hold_67 : decode cX9_hold 67 = .ok (.iload_n 1, 1) := dq daX9_hold_40 (i := 1) rfl
theorem dX9_hold_68 : decode cX9_hold 68 = .ok (.laload, 1) := dq daX9_hold_40 (i := 2) rfl
theorem dX9_hold_69 : decode cX9_hold 69 = .ok (.ldc2_w 336, 3) := dq daX9_hold_40 (i := 3) rfl
theorem dX9_hold_72 : decode cX9_hold 72 = .ok (.ladd, 1) := dq daX9_hold_40 (i := 4) rfl
theorem dX9_hold_73 : decode cX9_hold 73 = .ok (.goto 9, 3) := dq daX9_hold_40 (i := 5) rfl
theorem dX9_hold_76 : decode cX9_hold 76 = .ok (.aload_n 0, 1) := dq daX9_hold_40 (i := 6) rfl
theorem dX9_hold_77 : decode cX9_hold 77 = .ok (.getfield 68, 3) := dq daX9_hold_40 (i := 7) rfl
theorem dX9_hold_80 : decode cX9_hold 80 = .ok (.iload_n 1, 1) := dq daX9_hold_40 (i := 8) rfl
theorem dX9_hold_81 : decode cX9_hold 81 = .ok (.laload, 1) := dq daX9_hold_40 (i := 9) rfl
theorem dX9_hold_82 : decode cX9_hold 82 = .ok (.lastore, 1) := dq daX9_hold_40 (i := 10) rfl
theorem dX9_hold_83 : decode cX9_hold 83 = .ok (.aload_n 0, 1) := dq daX9_hold_40 (i := 11) rfl
theorem dX9_hold_84 : decode cX9_hold 84 = .ok (.getfield 91, 3) := dq daX9_hold_40 (i := 12) rfl
theorem dX9_hold_87 : decode cX9_hold 87 = .ok (.ireturn, 1) := dq daX9_hold_40 (i := 13) rfl
theorem dX9_hold_88 : decode cX9_hold 88 = .ok (.aload_n 0, 1) := dq daX9_hold_40 (i := 14) rfl
theorem dX9_hold_89 : decode cX9_hold 89 = .ok (.getfield 75, 3) := dq daX9_hold_40 (i := 15) rfl
theorem dX9_hold_92 : decode cX9_hold 92 = .ok (.iload_n 1, 1) := dq daX9_hold_40 (i := 16) rfl
theorem dX9_hold_93 : decode cX9_hold 93 = .ok (.aload_n 0, 1) := dq daX9_hold_40 (i := 17) rfl
theorem dX9_hold_94 : decode cX9_hold 94 = .ok (.getfield 15, 3) := dq daX9_hold_40 (i := 18) rfl
theorem dX9_hold_97 : decode cX9_hold 97 = .ok (.iastore, 1) := dq daX9_hold_40 (i := 19) rfl
theorem dX9_hold_98 : decode cX9_hold 98 = .ok (.aload_n 0, 1) := dq daX9_hold_40 (i := 20) rfl
theorem dX9_hold_99 : decode cX9_hold 99 = .ok (.getfield 72, 3) := dq daX9_hold_40 (i := 21) rfl
theorem dX9_hold_102 : decode cX9_hold 102 = .ok (.iload_n 1, 1) := dq daX9_hold_40 (i := 22) rfl
theorem dX9_hold_103 : decode cX9_hold 103 = .ok (.aload_n 0, 1) := dq daX9_hold_40 (i := 23) rfl
theorem dX9_hold_104 : decode cX9_hold 104 = .ok (.getfield 94, 3) := dq daX9_hold_40 (i := 24) rfl
theorem dX9_hold_107 : decode cX9_hold 107 = .ok (.iastore, 1) := dq daX9_hold_40 (i := 25) rfl
theorem dX9_hold_108 : decode cX9_hold 108 = .ok (.iconst 0, 1) := dq daX9_hold_40 (i := 26) rfl
theorem dX9_hold_109 : decode cX9_hold 109 = .ok (.istore_n 3, 1) := dq daX9_hold_40 (i := 27) rfl
theorem dX9_hold_110 : decode cX9_hold 110 = .ok (.iload_n 3, 1) := dq daX9_hold_40 (i := 28) rfl
theorem dX9_hold_111 : decode cX9_hold 111 = .ok (.aload_n 0, 1) := dq daX9_hold_40 (i := 29) rfl
theorem dX9_hold_112 : decode cX9_hold 112 = .ok (.getfield 94, 3) := dq daX9_hold_40 (i := 30) rfl
theorem dX9_hold_115 : decode cX9_hold 115 = .ok (.if_icmp .ge 26, 3) := dq daX9_hold_40 (i := 31) rfl
theorem dX9_hold_118 : decode cX9_hold 118 = .ok (.aload_n 0, 1) := dq daX9_hold_40 (i := 32) rfl
theorem dX9_hold_119 : decode cX9_hold 119 = .ok (.getfield 78, 3) := dq daX9_hold_40 (i := 33) rfl
theorem dX9_hold_122 : decode cX9_hold 122 = .ok (.bipush 20, 2) := dq daX9_hold_40 (i := 34) rfl
theorem dX9_hold_124 : decode cX9_hold 124 = .ok (.iload_n 1, 1) := dq daX9_hold_40 (i := 35) rfl
theorem dX9_hold_125 : decode cX9_hold 125 = .ok (.imul, 1) := dq daX9_hold_40 (i := 36) rfl
theorem dX9_hold_126 : decode cX9_hold 126 = .ok (.iload_n 3, 1) := dq daX9_hold_40 (i := 37) rfl
theorem dX9_hold_127 : decode cX9_hold 127 = .ok (.iadd, 1) := dq daX9_hold_40 (i := 38) rfl
theorem dX9_hold_128 : decode cX9_hold 128 = .ok (.aload_n 0, 1) := dq daX9_hold_40 (i := 39) rfl
theorem daX9_hold_80 : dchk cX9_hold [(129, .getfield 19, 3), (132, .iload_n 3, 1), (133, .iaload, 1), (134, .iastore, 1), (135, .iinc 3 1, 3), (138, .goto (-28), 3), (141, .aload_n 0, 1), (142, .getfield 94, 3), (145, .ireturn, 1)] = true := by decide +kernel
theorem dX9_hold_129 : decode cX9_hold 129 = .ok (.getfield 19, 3) := dq daX9_hold_80 (i := 0) rfl
theorem dX9_hold_132 : decode cX9_hold 132 = .ok (.iload_n 3, 1) := dq daX9_hold_80 (i := 1) rfl
theorem dX9_hold_133 : decode cX9_hold 133 = .ok (.iaload, 1) := dq daX9_hold_80 (i := 2) rfl
theorem dX9_hold_134 : decode cX9_hold 134 = .ok (.iastore, 1) := dq daX9_hold_80 (i := 3) rfl
theorem dX9_hold_135 : decode cX9_hold 135 = .ok (.iinc 3 1, 3) := dq daX9_hold_80 (i := 4) rfl
theorem dX9_hold_138 : decode cX9_hold 138 = .ok (.goto (-28), 3) := dq daX9_hold_80 (i := 5) rfl
theorem dX9_hold_141 : decode cX9_hold 141 = .ok (.aload_n 0, 1) := dq daX9_hold_80 (i := 6) rfl
theorem dX9_hold_142 : decode cX9_hold 142 = .ok (.getfield 94, 3) := dq daX9_hold_80 (i := 7) rfl
theorem dX9_hold_145 : decode cX9_hold 145 = .ok (.ireturn, 1) := dq daX9_hold_80 (i := 8) rfl
theorem daX9_lose_0 : dchk cX9_lose [(0, .iload_n 1, 1), (1, .invokestatic 330, 3), (4, .ifCond .ne 5, 3), (7, .iconst (-1), 1), (8, .ireturn, 1), (9, .aload_n 0, 1), (10, .getfield 65, 3), (13, .iload_n 1, 1), (14, .iaload, 1), (15, .istore_n 2, 1), (16, .aload_n 0, 1), (17, .getfield 65, 3), (20, .iload_n 1, 1), (21, .iconst 0, 1), (22, .iastore, 1), (23, .iload_n 2, 1), (24, .ireturn, 1)] = true := by decide +kernel
theorem dX9_lose_0 : decode cX9_lose 0 = .ok (.iload_n 1, 1) := dq daX9_lose_0 (i := 0) rfl
theorem dX9_lose_1 : decode cX9_lose 1 = .ok (.invokestatic 330, 3) := dq daX9_lose_0 (i := 1) rfl
theorem dX9_lose_4 : decode cX9_lose 4 = .ok (.ifCond .ne 5, 3) := dq daX9_lose_0 (i := 2) rfl
theorem dX9_lose_7 : decode cX9_lose 7 = .ok (.iconst (-1), 1) := dq daX9_lose_0 (i := 3) rfl
theorem dX9_lose_8 : decode cX9_lose 8 = .ok (.ireturn, 1) := dq daX9_lose_0 (i := 4) rfl
theorem dX9_lose_9 : decode cX9_lose 9 = .ok (.aload_n 0, 1) := dq daX9_lose_0 (i := 5) rfl
theorem dX9_lose_10 : decode cX9_lose 10 = .ok (.getfield 65, 3) := dq daX9_lose_0 (i := 6) rfl
theorem dX9_lose_13 : decode cX9_lose 13 = .ok (.iload_n 1, 1) := dq daX9_lose_0 (i := 7) rfl
theorem dX9_lose_14 : decode cX9_lose 14 = .ok (.iaload, 1) := dq daX9_lose_0 (i := 8) rfl
theorem dX9_lose_15 : decode cX9_lose 15 = .ok (.istore_n 2, 1) := dq daX9_lose_0 (i := 9) rfl
theorem dX9_lose_16 : decode cX9_lose 16 = .ok (.aload_n 0, 1) := dq daX9_lose_0 (i := 10) rfl
theorem dX9_lose_17 : decode cX9_lose 17 = .ok (.getfield 65, 3) := dq daX9_lose_0 (i := 11) rfl
theorem dX9_lose_20 : decode cX9_lose 20 = .ok (.iload_n 1, 1) := dq daX9_lose_0 (i := 12) rfl
theorem dX9_lose_21 : decode cX9_lose 21 = .ok (.iconst 0, 1) := dq daX9_lose_0 (i := 13) rfl
theorem dX9_lose_22 : decode cX9_lose 22 = .ok (.iastore, 1) := dq daX9_lose_0 (i := 14) rfl
theorem dX9_lose_23 : decode cX9_lose 23 = .ok (.iload_n 2, 1) := dq daX9_lose_0 (i := 15) rfl
theorem dX9_lose_24 : decode cX9_lose 24 = .ok (.ireturn, 1) := dq daX9_lose_0 (i := 16) rfl
theorem daX9_isFull_0 : dchk cX9_isFull [(0, .aload_n 0, 1), (1, .getfield 72, 3), (4, .iload_n 1, 1), (5, .iaload, 1), (6, .aload_n 0, 1), (7, .getfield 75, 3), (10, .iload_n 1, 1), (11, .iaload, 1), (12, .iconst 3, 1), (13, .isub, 1), (14, .if_icmp .ne 7, 3), (17, .iconst 1, 1), (18, .goto 4, 3), (21, .iconst 0, 1), (22, .ireturn, 1)] = true := by decide +kernel
theorem dX9_isFull_0 : decode cX9_isFull 0 = .ok (.aload_n 0, 1) := dq daX9_isFull_0 (i := 0) rfl
theorem dX9_isFull_1 : decode cX9_isFull 1 = .ok (.getfield 72, 3) := dq daX9_isFull_0 (i := 1) rfl
theorem dX9_isFull_4 : decode cX9_isFull 4 = .ok (.iload_n 1, 1) := dq daX9_isFull_0 (i := 2) rfl
theorem dX9_isFull_5 : decode cX9_isFull 5 = .ok (.iaload, 1) := dq daX9_isFull_0 (i := 3) rfl
theorem dX9_isFull_6 : decode cX9_isFull 6 = .ok (.aload_n 0, 1) := dq daX9_isFull_0 (i := 4) rfl
theorem dX9_isFull_7 : decode cX9_isFull 7 = .ok (.getfield 75, 3) := dq daX9_isFull_0 (i := 5) rfl
theorem dX9_isFull_10 : decode cX9_isFull 10 = .ok (.iload_n 1, 1) := dq daX9_isFull_0 (i := 6) rfl
theorem dX9_isFull_11 : decode cX9_isFull 11 = .ok (.iaload, 1) := dq daX9_isFull_0 (i := 7) rfl
theorem dX9_isFull_12 : decode cX9_isFull 12 = .ok (.iconst 3, 1) := dq daX9_isFull_0 (i := 8) rfl
theorem dX9_isFull_13 : decode cX9_isFull 13 = .ok (.isub, 1) := dq daX9_isFull_0 (i := 9) rfl
theorem dX9_isFull_14 : decode cX9_isFull 14 = .ok (.if_icmp .ne 7, 3) := dq daX9_isFull_0 (i := 10) rfl
theorem dX9_isFull_17 : decode cX9_isFull 17 = .ok (.iconst 1, 1) := dq daX9_isFull_0 (i := 11) rfl
theorem dX9_isFull_18 : decode cX9_isFull 18 = .ok (.goto 4, 3) := dq daX9_isFull_0 (i := 12) rfl
theorem dX9_isFull_21 : decode cX9_isFull 21 = .ok (.iconst 0, 1) := dq daX9_isFull_0 (i := 13) rfl
theorem dX9_isFull_22 : decode cX9_isFull 22 = .ok (.ireturn, 1) := dq daX9_isFull_0 (i := 14) rfl
theorem daX9_taken_0 : dchk cX9_taken [(0, .iload_n 1, 1), (1, .invokestatic 330, 3), (4, .ifCond .eq 15, 3), (7, .iload_n 2, 1), (8, .i2l, 1), (9, .lconst 0, 1), (10, .ldc2_w 128, 3), (13, .invokestatic 110, 3), (16, .ifCond .ne 5, 3), (19, .iconst (-1), 1), (20, .ireturn, 1), (21, .aload_n 0, 1), (22, .getfield 65, 3), (25, .iload_n 1, 1), (26, .iaload, 1), (27, .ifCond .ne 6, 3), (30, .bipush (-11), 2), (32, .ireturn, 1), (33, .iload_n 2, 1), (34, .ifCond .ne 26, 3), (37, .aload_n 0, 1), (38, .getfield 65, 3), (41, .iload_n 1, 1), (42, .iaload, 1), (43, .iconst 1, 1), (44, .if_icmp .ne 13, 3), (47, .aload_n 0, 1), (48, .getfield 68, 3), (51, .iload_n 1, 1), (52, .laload, 1), (53, .l2i, 1), (54, .goto 5, 3), (57, .bipush (-12), 2), (59, .ireturn, 1), (60, .aload_n 0, 1), (61, .getfield 65, 3), (64, .iload_n 1, 1), (65, .iaload, 1), (66, .iconst 2, 1), (67, .if_icmp .eq 6, 3)] = true := by decide +kernel
theorem dX9_taken_0 : decode cX9_taken 0 = .ok (.iload_n 1, 1) := dq daX9_taken_0 (i := 0) rfl
theorem dX9_taken_1 : decode cX9_taken 1 = .ok (.invokestatic 330, 3) := dq daX9_taken_0 (i := 1) rfl
theorem dX9_taken_4 : decode cX9_taken 4 = .ok (.ifCond .eq 15, 3) := dq daX9_taken_0 (i := 2) rfl
theorem dX9_taken_7 : decode cX9_taken 7 = .ok (.iload_n 2, 1) := dq daX9_taken_0 (i := 3) rfl
theorem dX9_taken_8 : decode cX9_taken 8 = .ok (.i2l, 1) := dq daX9_taken_0 (i := 4) rfl
theorem dX9_taken_9 : decode cX9_taken 9 = .ok (.lconst 0, 1) := dq daX9_taken_0 (i := 5) rfl
theorem dX9_taken_10 : decode cX9_taken 10 = .ok (.ldc2_w 128, 3) := dq daX9_taken_0 (i := 6) rfl
theorem dX9_taken_13 : decode cX9_taken 13 = .ok (.invokestatic 110, 3) := dq daX9_taken_0 (i := 7) rfl
theorem dX9_taken_16 : decode cX9_taken 16 = .ok (.ifCond .ne 5, 3) := dq daX9_taken_0 (i := 8) rfl
theorem dX9_taken_19 : decode cX9_taken 19 = .ok (.iconst (-1), 1) := dq daX9_taken_0 (i := 9) rfl
theorem dX9_taken_20 : decode cX9_taken 20 = .ok (.ireturn, 1) := dq daX9_taken_0 (i := 10) rfl
theorem dX9_taken_21 : decode cX9_taken 21 = .ok (.aload_n 0, 1) := dq daX9_taken_0 (i := 11) rfl
theorem dX9_taken_22 : decode cX9_taken 22 = .ok (.getfield 65, 3) := dq daX9_taken_0 (i := 12) rfl
theorem dX9_taken_25 : decode cX9_taken 25 = .ok (.iload_n 1, 1) := dq daX9_taken_0 (i := 13) rfl
theorem dX9_taken_26 : decode cX9_taken 26 = .ok (.iaload, 1) := dq daX9_taken_0 (i := 14) rfl
theorem dX9_taken_27 : decode cX9_taken 27 = .ok (.ifCond .ne 6, 3) := dq daX9_taken_0 (i := 15) rfl
theorem dX9_taken_30 : decode cX9_taken 30 = .ok (.bipush (-11), 2) := dq daX9_taken_0 (i := 16) rfl
theorem dX9_taken_32 : decode cX9_taken 32 = .ok (.ireturn, 1) := dq daX9_taken_0 (i := 17) rfl
theorem dX9_taken_33 : decode cX9_taken 33 = .ok (.iload_n 2, 1) := dq daX9_taken_0 (i := 18) rfl
theorem dX9_taken_34 : decode cX9_taken 34 = .ok (.ifCond .ne 26, 3) := dq daX9_taken_0 (i := 19) rfl
theorem dX9_taken_37 : decode cX9_taken 37 = .ok (.aload_n 0, 1) := dq daX9_taken_0 (i := 20) rfl
theorem dX9_taken_38 : decode cX9_taken 38 = .ok (.getfield 65, 3) := dq daX9_taken_0 (i := 21) rfl
theorem dX9_taken_41 : decode cX9_taken 41 = .ok (.iload_n 1, 1) := dq daX9_taken_0 (i := 22) rfl
theorem dX9_taken_42 : decode cX9_taken 42 = .ok (.iaload, 1) := dq daX9_taken_0 (i := 23) rfl
theorem dX9_taken_43 : decode cX9_taken 43 = .ok (.iconst 1, 1) := dq daX9_taken_0 (i := 24) rfl
theorem dX9_taken_44 : decode cX9_taken 44 = .ok (.if_icmp .ne 13, 3) := dq daX9_taken_0 (i := 25) rfl
theorem dX9_taken_47 : decode cX9_taken 47 = .ok (.aload_n 0, 1) := dq daX9_taken_0 (i := 26) rfl
theorem dX9_taken_48 : decode cX9_taken 48 = .ok (.getfield 68, 3) := dq daX9_taken_0 (i := 27) rfl
theorem dX9_taken_51 : decode cX9_taken 51 = .ok (.iload_n 1, 1) := dq daX9_taken_0 (i := 28) rfl
theorem dX9_taken_52 : decode cX9_taken 52 = .ok (.laload, 1) := dq daX9_taken_0 (i := 29) rfl
theorem dX9_taken_53 : decode cX9_taken 53 = .ok (.l2i, 1) := dq daX9_taken_0 (i := 30) rfl
theorem dX9_taken_54 : decode cX9_taken 54 = .ok (.goto 5, 3) := dq daX9_taken_0 (i := 31) rfl
theorem dX9_taken_57 : decode cX9_taken 57 = .ok (.bipush (-12), 2) := dq daX9_taken_0 (i := 32) rfl
theorem dX9_taken_59 : decode cX9_taken 59 = .ok (.ireturn, 1) := dq daX9_taken_0 (i := 33) rfl
theorem dX9_taken_60 : decode cX9_taken 60 = .ok (.aload_n 0, 1) := dq daX9_taken_0 (i := 34) rfl
theorem dX9_taken_61 : decode cX9_taken 61 = .ok (.getfield 65, 3) := dq daX9_taken_0 (i := 35) rfl
theorem dX9_taken_64 : decode cX9_taken 64 = .ok (.iload_n 1, 1) := dq daX9_taken_0 (i := 36) rfl
theorem dX9_taken_65 : decode cX9_taken 65 = .ok (.iaload, 1) := dq daX9_taken_0 (i := 37) rfl
theorem dX9_taken_66 : decode cX9_taken 66 = .ok (.iconst 2, 1) := dq daX9_taken_0 (i := 38) rfl
theorem dX9_taken_67 : decode cX9_taken 67 = .ok (.if_icmp .eq 6, 3) := dq daX9_taken_0 (i := 39) rfl
theorem daX9_taken_40 : dchk cX9_taken [(70, .bipush (-12), 2), (72, .ireturn, 1), (73, .iload_n 2, 1), (74, .iconst 1, 1), (75, .if_icmp .ne 10, 3), (78, .aload_n 0, 1), (79, .getfield 72, 3), (82, .iload_n 1, 1), (83, .iaload, 1), (84, .ireturn, 1), (85, .iload_n 2, 1), (86, .iconst 2, 1), (87, .if_icmp .ne 11, 3), (90, .aload_n 0, 1), (91, .iload_n 1, 1), (92, .invokevirtual 338, 3), (95, .goto 25, 3), (98, .aload_n 0, 1), (99, .iload_n 1, 1), (100, .invokevirtual 338, 3), (103, .ifCond .ne 16, 3), (106, .aload_n 0, 1), (107, .getfield 72, 3), (110, .iload_n 1, 1), (111, .iaload, 1), (112, .ifCond .ne 7, 3), (115, .iconst 1, 1), (116, .goto 4, 3), (119, .iconst 0, 1), (120, .istore_n 3, 1), (121, .iload_n 3, 1), (122, .ifCond .eq 12, 3), (125, .aload_n 0, 1), (126, .getfield 75, 3), (129, .iload_n 1, 1), (130, .iaload, 1), (131, .goto 5, 3), (134, .bipush (-12), 2), (136, .ireturn, 1)] = true := by decide +kernel
theorem dX9_taken_70 : decode cX9_taken 70 = .ok (.bipush (-12), 2) := dq daX9_taken_40 (i := 0) rfl
theorem dX9_taken_72 : decode cX9_taken 72 = .ok (.ireturn, 1) := dq daX9_taken_40 (i := 1) rfl
theorem dX9_taken_73 : decode cX9_taken 73 = .ok (.iload_n 2, 1) := dq daX9_taken_40 (i := 2) rfl
theorem dX9_taken_74 : decode cX9_taken 74 = .ok (.iconst 1, 1) := dq daX9_taken_40 (i := 3) rfl
theorem dX9_taken_75 : decode cX9_taken 75 = .ok (.if_icmp .ne 10, 3) := dq daX9_taken_40 (i := 4) rfl
theorem dX9_taken_78 : decode cX9_taken 78 = .ok (.aload_n 0, 1) := dq daX9_taken_40 (i := 5) rfl
theorem dX9_taken_79 : decode cX9_taken 79 = .ok (.getfield 72, 3) := dq daX9_taken_40 (i := 6) rfl
theorem dX9_taken_82 : decode cX9_taken 82 = .ok (.iload_n 1, 1) := dq daX9_taken_40 (i := 7) rfl
theorem dX9_taken_83 : decode cX9_taken 83 = .ok (.iaload, 1) := dq daX9_taken_40 (i := 8) rfl
theorem dX9_taken_84 : decode cX9_taken 84 = .ok (.ireturn, 1) := dq daX9_taken_40 (i := 9) rfl
theorem dX9_taken_85 : decode cX9_taken 85 = .ok (.iload_n 2, 1) := dq daX9_taken_40 (i := 10) rfl
theorem dX9_taken_86 : decode cX9_taken 86 = .ok (.iconst 2, 1) := dq daX9_taken_40 (i := 11) rfl
theorem dX9_taken_87 : decode cX9_taken 87 = .ok (.if_icmp .ne 11, 3) := dq daX9_taken_40 (i := 12) rfl
theorem dX9_taken_90 : decode cX9_taken 90 = .ok (.aload_n 0, 1) := dq daX9_taken_40 (i := 13) rfl
theorem dX9_taken_91 : decode cX9_taken 91 = .ok (.iload_n 1, 1) := dq daX9_taken_40 (i := 14) rfl
theorem dX9_taken_92 : decode cX9_taken 92 = .ok (.invokevirtual 338, 3) := dq daX9_taken_40 (i := 15) rfl
theorem dX9_taken_95 : decode cX9_taken 95 = .ok (.goto 25, 3) := dq daX9_taken_40 (i := 16) rfl
theorem dX9_taken_98 : decode cX9_taken 98 = .ok (.aload_n 0, 1) := dq daX9_taken_40 (i := 17) rfl
theorem dX9_taken_99 : decode cX9_taken 99 = .ok (.iload_n 1, 1) := dq daX9_taken_40 (i := 18) rfl
theorem dX9_taken_100 : decode cX9_taken 100 = .ok (.invokevirtual 338, 3) := dq daX9_taken_40 (i := 19) rfl
theorem dX9_taken_103 : decode cX9_taken 103 = .ok (.ifCond .ne 16, 3) := dq daX9_taken_40 (i := 20) rfl
theorem dX9_taken_106 : decode cX9_taken 106 = .ok (.aload_n 0, 1) := dq daX9_taken_40 (i := 21) rfl
theorem dX9_taken_107 : decode cX9_taken 107 = .ok (.getfield 72, 3) := dq daX9_taken_40 (i := 22) rfl
theorem dX9_taken_110 : decode cX9_taken 110 = .ok (.iload_n 1, 1) := dq daX9_taken_40 (i := 23) rfl
theorem dX9_taken_111 : decode cX9_taken 111 = .ok (.iaload, 1) := dq daX9_taken_40 (i := 24) rfl
theorem dX9_taken_112 : decode cX9_taken 112 = .ok (.ifCond .ne 7, 3) := dq daX9_taken_40 (i := 25) rfl
theorem dX9_taken_115 : decode cX9_taken 115 = .ok (.iconst 1, 1) := dq daX9_taken_40 (i := 26) rfl
theorem dX9_taken_116 : decode cX9_taken 116 = .ok (.goto 4, 3) := dq daX9_taken_40 (i := 27) rfl
theorem dX9_taken_119 : decode cX9_taken 119 = .ok (.iconst 0, 1) := dq daX9_taken_40 (i := 28) rfl
theorem dX9_taken_120 : decode cX9_taken 120 = .ok (.istore_n 3, 1) := dq daX9_taken_40 (i := 29) rfl
theorem dX9_taken_121 : decode cX9_taken 121 = .ok (.iload_n 3, 1) := dq daX9_taken_40 (i := 30) rfl
theorem dX9_taken_122 : decode cX9_taken 122 = .ok (.ifCond .eq 12, 3) := dq daX9_taken_40 (i := 31) rfl
theorem dX9_taken_125 : decode cX9_taken 125 = .ok (.aload_n 0, 1) := dq daX9_taken_40 (i := 32) rfl
theorem dX9_taken_126 : decode cX9_taken 126 = .ok (.getfield 75, 3) := dq daX9_taken_40 (i := 33) rfl
theorem dX9_taken_129 : decode cX9_taken 129 = .ok (.iload_n 1, 1) := dq daX9_taken_40 (i := 34) rfl
theorem dX9_taken_130 : decode cX9_taken 130 = .ok (.iaload, 1) := dq daX9_taken_40 (i := 35) rfl
theorem dX9_taken_131 : decode cX9_taken 131 = .ok (.goto 5, 3) := dq daX9_taken_40 (i := 36) rfl
theorem dX9_taken_134 : decode cX9_taken 134 = .ok (.bipush (-12), 2) := dq daX9_taken_40 (i := 37) rfl
theorem dX9_taken_136 : decode cX9_taken 136 = .ok (.ireturn, 1) := dq daX9_taken_40 (i := 38) rfl
theorem daX9_common__0 : dchk cX9_common_ [(0, .iload_n 1, 1), (1, .invokestatic 330, 3), (4, .ifCond .ne 5, 3), (7, .iconst (-1), 1), (8, .ireturn, 1), (9, .aload_n 0, 1), (10, .getfield 65, 3), (13, .iload_n 1, 1), (14, .iaload, 1), (15, .iconst 2, 1), (16, .if_icmp .eq 20, 3), (19, .aload_n 0, 1), (20, .getfield 65, 3), (23, .iload_n 1, 1), (24, .iaload, 1), (25, .ifCond .ne 8, 3), (28, .bipush (-11), 2), (30, .goto 5, 3), (33, .bipush (-12), 2), (35, .ireturn, 1), (36, .aload_n 0, 1), (37, .getfield 75, 3), (40, .iload_n 1, 1), (41, .iaload, 1), (42, .aload_n 0, 1), (43, .getfield 15, 3), (46, .if_icmp .eq 6, 3), (49, .bipush (-5), 2), (51, .ireturn, 1), (52, .iconst 0, 1), (53, .istore_n 2, 1), (54, .iconst 0, 1), (55, .istore_n 3, 1), (56, .iload_n 3, 1), (57, .aload_n 0, 1), (58, .getfield 72, 3), (61, .iload_n 1, 1), (62, .iaload, 1), (63, .if_icmp .ge 35, 3), (66, .iload_n 2, 1)] = true := by decide +kernel
theorem dX9_common__0 : decode cX9_common_ 0 = .ok (.iload_n 1, 1) := dq daX9_common__0 (i := 0) rfl
theorem dX9_common__1 : decode cX9_common_ 1 = .ok (.invokestatic 330, 3) := dq daX9_common__0 (i := 1) rfl
theorem dX9_common__4 : decode cX9_common_ 4 = .ok (.ifCond .ne 5, 3) := dq daX9_common__0 (i := 2) rfl
theorem dX9_common__7 : decode cX9_common_ 7 = .ok (.iconst (-1), 1) := dq daX9_common__0 (i := 3) rfl
theorem dX9_common__8 : decode cX9_common_ 8 = .ok (.ireturn, 1) := dq daX9_common__0 (i := 4) rfl
theorem dX9_common__9 : decode cX9_common_ 9 = .ok (.aload_n 0, 1) := dq daX9_common__0 (i := 5) rfl
theorem dX9_common__10 : decode cX9_common_ 10 = .ok (.getfield 65, 3) := dq daX9_common__0 (i := 6) rfl
theorem dX9_common__13 : decode cX9_common_ 13 = .ok (.iload_n 1, 1) := dq daX9_common__0 (i := 7) rfl
theorem dX9_common__14 : decode cX9_common_ 14 = .ok (.iaload, 1) := dq daX9_common__0 (i := 8) rfl
theorem dX9_common__15 : decode cX9_common_ 15 = .ok (.iconst 2, 1) := dq daX9_common__0 (i := 9) rfl
theorem dX9_common__16 : decode cX9_common_ 16 = .ok (.if_icmp .eq 20, 3) := dq daX9_common__0 (i := 10) rfl
theorem dX9_common__19 : decode cX9_common_ 19 = .ok (.aload_n 0, 1) := dq daX9_common__0 (i := 11) rfl
theorem dX9_common__20 : decode cX9_common_ 20 = .ok (.getfield 65, 3) := dq daX9_common__0 (i := 12) rfl
theorem dX9_common__23 : decode cX9_common_ 23 = .ok (.iload_n 1, 1) := dq daX9_common__0 (i := 13) rfl
theorem dX9_common__24 : decode cX9_common_ 24 = .ok (.iaload, 1) := dq daX9_common__0 (i := 14) rfl
theorem dX9_common__25 : decode cX9_common_ 25 = .ok (.ifCond .ne 8, 3) := dq daX9_common__0 (i := 15) rfl
theorem dX9_common__28 : decode cX9_common_ 28 = .ok (.bipush (-11), 2) := dq daX9_common__0 (i := 16) rfl
theorem dX9_common__30 : decode cX9_common_ 30 = .ok (.goto 5, 3) := dq daX9_common__0 (i := 17) rfl
theorem dX9_common__33 : decode cX9_common_ 33 = .ok (.bipush (-12), 2) := dq daX9_common__0 (i := 18) rfl
theorem dX9_common__35 : decode cX9_common_ 35 = .ok (.ireturn, 1) := dq daX9_common__0 (i := 19) rfl
theorem dX9_common__36 : decode cX9_common_ 36 = .ok (.aload_n 0, 1) := dq daX9_common__0 (i := 20) rfl
theorem dX9_common__37 : decode cX9_common_ 37 = .ok (.getfield 75, 3) := dq daX9_common__0 (i := 21) rfl
theorem dX9_common__40 : decode cX9_common_ 40 = .ok (.iload_n 1, 1) := dq daX9_common__0 (i := 22) rfl
theorem dX9_common__41 : decode cX9_common_ 41 = .ok (.iaload, 1) := dq daX9_common__0 (i := 23) rfl
theorem dX9_common__42 : decode cX9_common_ 42 = .ok (.aload_n 0, 1) := dq daX9_common__0 (i := 24) rfl
theorem dX9_common__43 : decode cX9_common_ 43 = .ok (.getfield 15, 3) := dq daX9_common__0 (i := 25) rfl
theorem dX9_common__46 : decode cX9_common_ 46 = .ok (.if_icmp .eq 6, 3) := dq daX9_common__0 (i := 26) rfl
theorem dX9_common__49 : decode cX9_common_ 49 = .ok (.bipush (-5), 2) := dq daX9_common__0 (i := 27) rfl
theorem dX9_common__51 : decode cX9_common_ 51 = .ok (.ireturn, 1) := dq daX9_common__0 (i := 28) rfl
theorem dX9_common__52 : decode cX9_common_ 52 = .ok (.iconst 0, 1) := dq daX9_common__0 (i := 29) rfl
theorem dX9_common__53 : decode cX9_common_ 53 = .ok (.istore_n 2, 1) := dq daX9_common__0 (i := 30) rfl
theorem dX9_common__54 : decode cX9_common_ 54 = .ok (.iconst 0, 1) := dq daX9_common__0 (i := 31) rfl
theorem dX9_common__55 : decode cX9_common_ 55 = .ok (.istore_n 3, 1) := dq daX9_common__0 (i := 32) rfl
theorem dX9_common__56 : decode cX9_common_ 56 = .ok (.iload_n 3, 1) := dq daX9_common__0 (i := 33) rfl
theorem dX9_common__57 : decode cX9_common_ 57 = .ok (.aload_n 0, 1) := dq daX9_common__0 (i := 34) rfl
theorem dX9_common__58 : decode cX9_common_ 58 = .ok (.getfield 72, 3) := dq daX9_common__0 (i := 35) rfl
theorem dX9_common__61 : decode cX9_common_ 61 = .ok (.iload_n 1, 1) := dq daX9_common__0 (i := 36) rfl
theorem dX9_common__62 : decode cX9_common_ 62 = .ok (.iaload, 1) := dq daX9_common__0 (i := 37) rfl
theorem dX9_common__63 : decode cX9_common_ 63 = .ok (.if_icmp .ge 35, 3) := dq daX9_common__0 (i := 38) rfl
theorem dX9_common__66 : decode cX9_common_ 66 = .ok (.iload_n 2, 1) := dq daX9_common__0 (i := 39) rfl
theorem daX9_common__40 : dchk cX9_common_ [(67, .aload_n 0, 1), (68, .aload_n 0, 1), (69, .getfield 78, 3), (72, .bipush 20, 2), (74, .iload_n 1, 1), (75, .imul, 1), (76, .iload_n 3, 1), (77, .iadd, 1), (78, .iaload, 1), (79, .invokevirtual 226, 3), (82, .ifCond .lt 7, 3), (85, .iconst 1, 1), (86, .goto 4, 3), (89, .iconst 0, 1), (90, .iadd, 1), (91, .istore_n 2, 1), (92, .iinc 3 1, 3), (95, .goto (-39), 3), (98, .iload_n 2, 1), (99, .ireturn, 1)] = true := by decide +kernel
theorem dX9_common__67 : decode cX9_common_ 67 = .ok (.aload_n 0, 1) := dq daX9_common__40 (i := 0) rfl
theorem dX9_common__68 : decode cX9_common_ 68 = .ok (.aload_n 0, 1) := dq daX9_common__40 (i := 1) rfl
theorem dX9_common__69 : decode cX9_common_ 69 = .ok (.getfield 78, 3) := dq daX9_common__40 (i := 2) rfl
theorem dX9_common__72 : decode cX9_common_ 72 = .ok (.bipush 20, 2) := dq daX9_common__40 (i := 3) rfl
theorem dX9_common__74 : decode cX9_common_ 74 = .ok (.iload_n 1, 1) := dq daX9_common__40 (i := 4) rfl
theorem dX9_common__75 : decode cX9_common_ 75 = .ok (.imul, 1) := dq daX9_common__40 (i := 5) rfl
theorem dX9_common__76 : decode cX9_common_ 76 = .ok (.iload_n 3, 1) := dq daX9_common__40 (i := 6) rfl
theorem dX9_common__77 : decode cX9_common_ 77 = .ok (.iadd, 1) := dq daX9_common__40 (i := 7) rfl
theorem dX9_common__78 : decode cX9_common_ 78 = .ok (.iaload, 1) := dq daX9_common__40 (i := 8) rfl
theorem dX9_common__79 : decode cX9_common_ 79 = .ok (.invokevirtual 226, 3) := dq daX9_common__40 (i := 9) rfl
theorem dX9_common__82 : decode cX9_common_ 82 = .ok (.ifCond .lt 7, 3) := dq daX9_common__40 (i := 10) rfl
theorem dX9_common__85 : decode cX9_common_ 85 = .ok (.iconst 1, 1) := dq daX9_common__40 (i := 11) rfl
theorem dX9_common__86 : decode cX9_common_ 86 = .ok (.goto 4, 3) := dq daX9_common__40 (i := 12) rfl
theorem dX9_common__89 : decode cX9_common_ 89 = .ok (.iconst 0, 1) := dq daX9_common__40 (i := 13) rfl
theorem dX9_common__90 : decode cX9_common_ 90 = .ok (.iadd, 1) := dq daX9_common__40 (i := 14) rfl
theorem dX9_common__91 : decode cX9_common_ 91 = .ok (.istore_n 2, 1) := dq daX9_common__40 (i := 15) rfl
theorem dX9_common__92 : decode cX9_common_ 92 = .ok (.iinc 3 1, 3) := dq daX9_common__40 (i := 16) rfl
theorem dX9_common__95 : decode cX9_common_ 95 = .ok (.goto (-39), 3) := dq daX9_common__40 (i := 17) rfl
theorem dX9_common__98 : decode cX9_common_ 98 = .ok (.iload_n 2, 1) := dq daX9_common__40 (i := 18) rfl
theorem dX9_common__99 : decode cX9_common_ 99 = .ok (.ireturn, 1) := dq daX9_common__40 (i := 19) rfl
theorem daX9_row_0 : dchk cX9_row [(0, .iload_n 1, 1), (1, .invokestatic 330, 3), (4, .ifCond .eq 9, 3), (7, .iload_n 2, 1), (8, .bipush 20, 2), (10, .if_icmp .le 5, 3), (13, .iconst (-1), 1), (14, .ireturn, 1), (15, .iload_n 2, 1), (16, .ifCond .ge 6, 3), (19, .bipush (-14), 2), (21, .ireturn, 1), (22, .aload_n 0, 1), (23, .getfield 65, 3), (26, .iload_n 1, 1), (27, .iconst 3, 1), (28, .iastore, 1), (29, .aload_n 0, 1), (30, .getfield 72, 3), (33, .iload_n 1, 1), (34, .iload_n 2, 1), (35, .iastore, 1), (36, .iconst 0, 1), (37, .istore_n 3, 1), (38, .iload_n 3, 1), (39, .bipush 20, 2), (41, .if_icmp .ge 21, 3), (44, .aload_n 0, 1), (45, .getfield 78, 3), (48, .bipush 20, 2), (50, .iload_n 1, 1), (51, .imul, 1), (52, .iload_n 3, 1), (53, .iadd, 1), (54, .iconst 0, 1), (55, .iastore, 1), (56, .iinc 3 1, 3), (59, .goto (-21), 3), (62, .iload_n 2, 1), (63, .ireturn, 1)] = true := by decide +kernel
theorem dX9_row_0 : decode cX9_row 0 = .ok (.iload_n 1, 1) := dq daX9_row_0 (i := 0) rfl
theorem dX9_row_1 : decode cX9_row 1 = .ok (.invokestatic 330, 3) := dq daX9_row_0 (i := 1) rfl
theorem dX9_row_4 : decode cX9_row 4 = .ok (.ifCond .eq 9, 3) := dq daX9_row_0 (i := 2) rfl
theorem dX9_row_7 : decode cX9_row 7 = .ok (.iload_n 2, 1) := dq daX9_row_0 (i := 3) rfl
theorem dX9_row_8 : decode cX9_row 8 = .ok (.bipush 20, 2) := dq daX9_row_0 (i := 4) rfl
theorem dX9_row_10 : decode cX9_row 10 = .ok (.if_icmp .le 5, 3) := dq daX9_row_0 (i := 5) rfl
theorem dX9_row_13 : decode cX9_row 13 = .ok (.iconst (-1), 1) := dq daX9_row_0 (i := 6) rfl
theorem dX9_row_14 : decode cX9_row 14 = .ok (.ireturn, 1) := dq daX9_row_0 (i := 7) rfl
theorem dX9_row_15 : decode cX9_row 15 = .ok (.iload_n 2, 1) := dq daX9_row_0 (i := 8) rfl
theorem dX9_row_16 : decode cX9_row 16 = .ok (.ifCond .ge 6, 3) := dq daX9_row_0 (i := 9) rfl
theorem dX9_row_19 : decode cX9_row 19 = .ok (.bipush (-14), 2) := dq daX9_row_0 (i := 10) rfl
theorem dX9_row_21 : decode cX9_row 21 = .ok (.ireturn, 1) := dq daX9_row_0 (i := 11) rfl
theorem dX9_row_22 : decode cX9_row 22 = .ok (.aload_n 0, 1) := dq daX9_row_0 (i := 12) rfl
theorem dX9_row_23 : decode cX9_row 23 = .ok (.getfield 65, 3) := dq daX9_row_0 (i := 13) rfl
theorem dX9_row_26 : decode cX9_row 26 = .ok (.iload_n 1, 1) := dq daX9_row_0 (i := 14) rfl
theorem dX9_row_27 : decode cX9_row 27 = .ok (.iconst 3, 1) := dq daX9_row_0 (i := 15) rfl
theorem dX9_row_28 : decode cX9_row 28 = .ok (.iastore, 1) := dq daX9_row_0 (i := 16) rfl
theorem dX9_row_29 : decode cX9_row 29 = .ok (.aload_n 0, 1) := dq daX9_row_0 (i := 17) rfl
theorem dX9_row_30 : decode cX9_row 30 = .ok (.getfield 72, 3) := dq daX9_row_0 (i := 18) rfl
theorem dX9_row_33 : decode cX9_row 33 = .ok (.iload_n 1, 1) := dq daX9_row_0 (i := 19) rfl
theorem dX9_row_34 : decode cX9_row 34 = .ok (.iload_n 2, 1) := dq daX9_row_0 (i := 20) rfl
theorem dX9_row_35 : decode cX9_row 35 = .ok (.iastore, 1) := dq daX9_row_0 (i := 21) rfl
theorem dX9_row_36 : decode cX9_row 36 = .ok (.iconst 0, 1) := dq daX9_row_0 (i := 22) rfl
theorem dX9_row_37 : decode cX9_row 37 = .ok (.istore_n 3, 1) := dq daX9_row_0 (i := 23) rfl
theorem dX9_row_38 : decode cX9_row 38 = .ok (.iload_n 3, 1) := dq daX9_row_0 (i := 24) rfl
theorem dX9_row_39 : decode cX9_row 39 = .ok (.bipush 20, 2) := dq daX9_row_0 (i := 25) rfl
theorem dX9_row_41 : decode cX9_row 41 = .ok (.if_icmp .ge 21, 3) := dq daX9_row_0 (i := 26) rfl
theorem dX9_row_44 : decode cX9_row 44 = .ok (.aload_n 0, 1) := dq daX9_row_0 (i := 27) rfl
theorem dX9_row_45 : decode cX9_row 45 = .ok (.getfield 78, 3) := dq daX9_row_0 (i := 28) rfl
theorem dX9_row_48 : decode cX9_row 48 = .ok (.bipush 20, 2) := dq daX9_row_0 (i := 29) rfl
theorem dX9_row_50 : decode cX9_row 50 = .ok (.iload_n 1, 1) := dq daX9_row_0 (i := 30) rfl
theorem dX9_row_51 : decode cX9_row 51 = .ok (.imul, 1) := dq daX9_row_0 (i := 31) rfl
theorem dX9_row_52 : decode cX9_row 52 = .ok (.iload_n 3, 1) := dq daX9_row_0 (i := 32) rfl
theorem dX9_row_53 : decode cX9_row 53 = .ok (.iadd, 1) := dq daX9_row_0 (i := 33) rfl
theorem dX9_row_54 : decode cX9_row 54 = .ok (.iconst 0, 1) := dq daX9_row_0 (i := 34) rfl
theorem dX9_row_55 : decode cX9_row 55 = .ok (.iastore, 1) := dq daX9_row_0 (i := 35) rfl
theorem dX9_row_56 : decode cX9_row 56 = .ok (.iinc 3 1, 3) := dq daX9_row_0 (i := 36) rfl
theorem dX9_row_59 : decode cX9_row 59 = .ok (.goto (-21), 3) := dq daX9_row_0 (i := 37) rfl
theorem dX9_row_62 : decode cX9_row 62 = .ok (.iload_n 2, 1) := dq daX9_row_0 (i := 38) rfl
theorem dX9_row_63 : decode cX9_row 63 = .ok (.ireturn, 1) := dq daX9_row_0 (i := 39) rfl
theorem daX9_rowless_0 : dchk cX9_rowless [(0, .aload_n 0, 1), (1, .getfield 65, 3), (4, .iload_n 1, 1), (5, .iaload, 1), (6, .ifCond .ne 8, 3), (9, .bipush (-11), 2), (11, .goto 19, 3), (14, .aload_n 0, 1), (15, .getfield 65, 3), (18, .iload_n 1, 1), (19, .iaload, 1), (20, .iconst 3, 1), (21, .if_icmp .ne 7, 3), (24, .iconst 0, 1), (25, .goto 5, 3), (28, .bipush (-12), 2), (30, .ireturn, 1)] = true := by decide +kernel
theorem dX9_rowless_0 : decode cX9_rowless 0 = .ok (.aload_n 0, 1) := dq daX9_rowless_0 (i := 0) rfl
theorem dX9_rowless_1 : decode cX9_rowless 1 = .ok (.getfield 65, 3) := dq daX9_rowless_0 (i := 1) rfl
theorem dX9_rowless_4 : decode cX9_rowless 4 = .ok (.iload_n 1, 1) := dq daX9_rowless_0 (i := 2) rfl
theorem dX9_rowless_5 : decode cX9_rowless 5 = .ok (.iaload, 1) := dq daX9_rowless_0 (i := 3) rfl
theorem dX9_rowless_6 : decode cX9_rowless 6 = .ok (.ifCond .ne 8, 3) := dq daX9_rowless_0 (i := 4) rfl
theorem dX9_rowless_9 : decode cX9_rowless 9 = .ok (.bipush (-11), 2) := dq daX9_rowless_0 (i := 5) rfl
theorem dX9_rowless_11 : decode cX9_rowless 11 = .ok (.goto 19, 3) := dq daX9_rowless_0 (i := 6) rfl
theorem dX9_rowless_14 : decode cX9_rowless 14 = .ok (.aload_n 0, 1) := dq daX9_rowless_0 (i := 7) rfl
theorem dX9_rowless_15 : decode cX9_rowless 15 = .ok (.getfield 65, 3) := dq daX9_rowless_0 (i := 8) rfl
theorem dX9_rowless_18 : decode cX9_rowless 18 = .ok (.iload_n 1, 1) := dq daX9_rowless_0 (i := 9) rfl
theorem dX9_rowless_19 : decode cX9_rowless 19 = .ok (.iaload, 1) := dq daX9_rowless_0 (i := 10) rfl
theorem dX9_rowless_20 : decode cX9_rowless 20 = .ok (.iconst 3, 1) := dq daX9_rowless_0 (i := 11) rfl
theorem dX9_rowless_21 : decode cX9_rowless 21 = .ok (.if_icmp .ne 7, 3) := dq daX9_rowless_0 (i := 12) rfl
theorem dX9_rowless_24 : decode cX9_rowless 24 = .ok (.iconst 0, 1) := dq daX9_rowless_0 (i := 13) rfl
theorem dX9_rowless_25 : decode cX9_rowless 25 = .ok (.goto 5, 3) := dq daX9_rowless_0 (i := 14) rfl
theorem dX9_rowless_28 : decode cX9_rowless 28 = .ok (.bipush (-12), 2) := dq daX9_rowless_0 (i := 15) rfl
theorem dX9_rowless_30 : decode cX9_rowless 30 = .ok (.ireturn, 1) := dq daX9_rowless_0 (i := 16) rfl
theorem daX9_set_0 : dchk cX9_set [(0, .iload_n 1, 1), (1, .invokestatic 330, 3), (4, .ifCond .ne 5, 3), (7, .iconst (-1), 1), (8, .ireturn, 1), (9, .aload_n 0, 1), (10, .iload_n 1, 1), (11, .invokevirtual 341, 3), (14, .ifCond .eq 9, 3), (17, .aload_n 0, 1), (18, .iload_n 1, 1), (19, .invokevirtual 341, 3), (22, .ireturn, 1), (23, .iload_n 2, 1), (24, .i2l, 1), (25, .lconst 0, 1), (26, .aload_n 0, 1), (27, .getfield 72, 3), (30, .iload_n 1, 1), (31, .iaload, 1), (32, .iconst 1, 1), (33, .isub, 1), (34, .i2l, 1), (35, .invokestatic 110, 3), (38, .ifCond .ne 6, 3), (41, .bipush (-13), 2), (43, .ireturn, 1), (44, .aload_n 0, 1), (45, .getfield 78, 3), (48, .bipush 20, 2), (50, .iload_n 1, 1), (51, .imul, 1), (52, .iload_n 2, 1), (53, .iadd, 1), (54, .iload_n 3, 1), (55, .iastore, 1), (56, .iconst 1, 1), (57, .ireturn, 1)] = true := by decide +kernel
theorem dX9_set_0 : decode cX9_set 0 = .ok (.iload_n 1, 1) := dq daX9_set_0 (i := 0) rfl
theorem dX9_set_1 : decode cX9_set 1 = .ok (.invokestatic 330, 3) := dq daX9_set_0 (i := 1) rfl
theorem dX9_set_4 : decode cX9_set 4 = .ok (.ifCond .ne 5, 3) := dq daX9_set_0 (i := 2) rfl
theorem dX9_set_7 : decode cX9_set 7 = .ok (.iconst (-1), 1) := dq daX9_set_0 (i := 3) rfl
theorem dX9_set_8 : decode cX9_set 8 = .ok (.ireturn, 1) := dq daX9_set_0 (i := 4) rfl
theorem dX9_set_9 : decode cX9_set 9 = .ok (.aload_n 0, 1) := dq daX9_set_0 (i := 5) rfl
theorem dX9_set_10 : decode cX9_set 10 = .ok (.iload_n 1, 1) := dq daX9_set_0 (i := 6) rfl
theorem dX9_set_11 : decode cX9_set 11 = .ok (.invokevirtual 341, 3) := dq daX9_set_0 (i := 7) rfl
theorem dX9_set_14 : decode cX9_set 14 = .ok (.ifCond .eq 9, 3) := dq daX9_set_0 (i := 8) rfl
theorem dX9_set_17 : decode cX9_set 17 = .ok (.aload_n 0, 1) := dq daX9_set_0 (i := 9) rfl
theorem dX9_set_18 : decode cX9_set 18 = .ok (.iload_n 1, 1) := dq daX9_set_0 (i := 10) rfl
theorem dX9_set_19 : decode cX9_set 19 = .ok (.invokevirtual 341, 3) := dq daX9_set_0 (i := 11) rfl
theorem dX9_set_22 : decode cX9_set 22 = .ok (.ireturn, 1) := dq daX9_set_0 (i := 12) rfl
theorem dX9_set_23 : decode cX9_set 23 = .ok (.iload_n 2, 1) := dq daX9_set_0 (i := 13) rfl
theorem dX9_set_24 : decode cX9_set 24 = .ok (.i2l, 1) := dq daX9_set_0 (i := 14) rfl
theorem dX9_set_25 : decode cX9_set 25 = .ok (.lconst 0, 1) := dq daX9_set_0 (i := 15) rfl
theorem dX9_set_26 : decode cX9_set 26 = .ok (.aload_n 0, 1) := dq daX9_set_0 (i := 16) rfl
theorem dX9_set_27 : decode cX9_set 27 = .ok (.getfield 72, 3) := dq daX9_set_0 (i := 17) rfl
theorem dX9_set_30 : decode cX9_set 30 = .ok (.iload_n 1, 1) := dq daX9_set_0 (i := 18) rfl
theorem dX9_set_31 : decode cX9_set 31 = .ok (.iaload, 1) := dq daX9_set_0 (i := 19) rfl
theorem dX9_set_32 : decode cX9_set 32 = .ok (.iconst 1, 1) := dq daX9_set_0 (i := 20) rfl
theorem dX9_set_33 : decode cX9_set 33 = .ok (.isub, 1) := dq daX9_set_0 (i := 21) rfl
theorem dX9_set_34 : decode cX9_set 34 = .ok (.i2l, 1) := dq daX9_set_0 (i := 22) rfl
theorem dX9_set_35 : decode cX9_set 35 = .ok (.invokestatic 110, 3) := dq daX9_set_0 (i := 23) rfl
theorem dX9_set_38 : decode cX9_set 38 = .ok (.ifCond .ne 6, 3) := dq daX9_set_0 (i := 24) rfl
theorem dX9_set_41 : decode cX9_set 41 = .ok (.bipush (-13), 2) := dq daX9_set_0 (i := 25) rfl
theorem dX9_set_43 : decode cX9_set 43 = .ok (.ireturn, 1) := dq daX9_set_0 (i := 26) rfl
theorem dX9_set_44 : decode cX9_set 44 = .ok (.aload_n 0, 1) := dq daX9_set_0 (i := 27) rfl
theorem dX9_set_45 : decode cX9_set 45 = .ok (.getfield 78, 3) := dq daX9_set_0 (i := 28) rfl
theorem dX9_set_48 : decode cX9_set 48 = .ok (.bipush 20, 2) := dq daX9_set_0 (i := 29) rfl
theorem dX9_set_50 : decode cX9_set 50 = .ok (.iload_n 1, 1) := dq daX9_set_0 (i := 30) rfl
theorem dX9_set_51 : decode cX9_set 51 = .ok (.imul, 1) := dq daX9_set_0 (i := 31) rfl
theorem dX9_set_52 : decode cX9_set 52 = .ok (.iload_n 2, 1) := dq daX9_set_0 (i := 32) rfl
theorem dX9_set_53 : decode cX9_set 53 = .ok (.iadd, 1) := dq daX9_set_0 (i := 33) rfl
theorem dX9_set_54 : decode cX9_set 54 = .ok (.iload_n 3, 1) := dq daX9_set_0 (i := 34) rfl
theorem dX9_set_55 : decode cX9_set 55 = .ok (.iastore, 1) := dq daX9_set_0 (i := 35) rfl
theorem dX9_set_56 : decode cX9_set 56 = .ok (.iconst 1, 1) := dq daX9_set_0 (i := 36) rfl
theorem dX9_set_57 : decode cX9_set 57 = .ok (.ireturn, 1) := dq daX9_set_0 (i := 37) rfl
theorem daX9_get_0 : dchk cX9_get [(0, .iload_n 1, 1), (1, .invokestatic 330, 3), (4, .ifCond .eq 46, 3), (7, .aload_n 0, 1), (8, .getfield 65, 3), (11, .iload_n 1, 1), (12, .iaload, 1), (13, .iconst 3, 1), (14, .if_icmp .ne 36, 3), (17, .iload_n 2, 1), (18, .i2l, 1), (19, .lconst 0, 1), (20, .aload_n 0, 1), (21, .getfield 72, 3), (24, .iload_n 1, 1), (25, .iaload, 1), (26, .iconst 1, 1), (27, .isub, 1), (28, .i2l, 1), (29, .invokestatic 110, 3), (32, .ifCond .eq 18, 3), (35, .aload_n 0, 1), (36, .getfield 78, 3), (39, .bipush 20, 2), (41, .iload_n 1, 1), (42, .imul, 1), (43, .iload_n 2, 1), (44, .iadd, 1), (45, .iaload, 1), (46, .i2l, 1), (47, .goto 6, 3), (50, .ldc2_w 181, 3), (53, .lreturn, 1)] = true := by decide +kernel
theorem dX9_get_0 : decode cX9_get 0 = .ok (.iload_n 1, 1) := dq daX9_get_0 (i := 0) rfl
theorem dX9_get_1 : decode cX9_get 1 = .ok (.invokestatic 330, 3) := dq daX9_get_0 (i := 1) rfl
theorem dX9_get_4 : decode cX9_get 4 = .ok (.ifCond .eq 46, 3) := dq daX9_get_0 (i := 2) rfl
theorem dX9_get_7 : decode cX9_get 7 = .ok (.aload_n 0, 1) := dq daX9_get_0 (i := 3) rfl
theorem dX9_get_8 : decode cX9_get 8 = .ok (.getfield 65, 3) := dq daX9_get_0 (i := 4) rfl
theorem dX9_get_11 : decode cX9_get 11 = .ok (.iload_n 1, 1) := dq daX9_get_0 (i := 5) rfl
theorem dX9_get_12 : decode cX9_get 12 = .ok (.iaload, 1) := dq daX9_get_0 (i := 6) rfl
theorem dX9_get_13 : decode cX9_get 13 = .ok (.iconst 3, 1) := dq daX9_get_0 (i := 7) rfl
theorem dX9_get_14 : decode cX9_get 14 = .ok (.if_icmp .ne 36, 3) := dq daX9_get_0 (i := 8) rfl
theorem dX9_get_17 : decode cX9_get 17 = .ok (.iload_n 2, 1) := dq daX9_get_0 (i := 9) rfl
theorem dX9_get_18 : decode cX9_get 18 = .ok (.i2l, 1) := dq daX9_get_0 (i := 10) rfl
theorem dX9_get_19 : decode cX9_get 19 = .ok (.lconst 0, 1) := dq daX9_get_0 (i := 11) rfl
theorem dX9_get_20 : decode cX9_get 20 = .ok (.aload_n 0, 1) := dq daX9_get_0 (i := 12) rfl
theorem dX9_get_21 : decode cX9_get 21 = .ok (.getfield 72, 3) := dq daX9_get_0 (i := 13) rfl
theorem dX9_get_24 : decode cX9_get 24 = .ok (.iload_n 1, 1) := dq daX9_get_0 (i := 14) rfl
theorem dX9_get_25 : decode cX9_get 25 = .ok (.iaload, 1) := dq daX9_get_0 (i := 15) rfl
theorem dX9_get_26 : decode cX9_get 26 = .ok (.iconst 1, 1) := dq daX9_get_0 (i := 16) rfl
theorem dX9_get_27 : decode cX9_get 27 = .ok (.isub, 1) := dq daX9_get_0 (i := 17) rfl
theorem dX9_get_28 : decode cX9_get 28 = .ok (.i2l, 1) := dq daX9_get_0 (i := 18) rfl
theorem dX9_get_29 : decode cX9_get 29 = .ok (.invokestatic 110, 3) := dq daX9_get_0 (i := 19) rfl
theorem dX9_get_32 : decode cX9_get 32 = .ok (.ifCond .eq 18, 3) := dq daX9_get_0 (i := 20) rfl
theorem dX9_get_35 : decode cX9_get 35 = .ok (.aload_n 0, 1) := dq daX9_get_0 (i := 21) rfl
theorem dX9_get_36 : decode cX9_get 36 = .ok (.getfield 78, 3) := dq daX9_get_0 (i := 22) rfl
theorem dX9_get_39 : decode cX9_get 39 = .ok (.bipush 20, 2) := dq daX9_get_0 (i := 23) rfl
theorem dX9_get_41 : decode cX9_get 41 = .ok (.iload_n 1, 1) := dq daX9_get_0 (i := 24) rfl
theorem dX9_get_42 : decode cX9_get 42 = .ok (.imul, 1) := dq daX9_get_0 (i := 25) rfl
theorem dX9_get_43 : decode cX9_get 43 = .ok (.iload_n 2, 1) := dq daX9_get_0 (i := 26) rfl
theorem dX9_get_44 : decode cX9_get 44 = .ok (.iadd, 1) := dq daX9_get_0 (i := 27) rfl
theorem dX9_get_45 : decode cX9_get 45 = .ok (.iaload, 1) := dq daX9_get_0 (i := 28) rfl
theorem dX9_get_46 : decode cX9_get 46 = .ok (.i2l, 1) := dq daX9_get_0 (i := 29) rfl
theorem dX9_get_47 : decode cX9_get 47 = .ok (.goto 6, 3) := dq daX9_get_0 (i := 30) rfl
theorem dX9_get_50 : decode cX9_get 50 = .ok (.ldc2_w 181, 3) := dq daX9_get_0 (i := 31) rfl
theorem dX9_get_53 : decode cX9_get 53 = .ok (.lreturn, 1) := dq daX9_get_0 (i := 32) rfl
theorem daX9_judge_0 : dchk cX9_judge [(0, .iload_n 1, 1), (1, .invokestatic 330, 3), (4, .ifCond .ne 5, 3), (7, .iconst (-1), 1), (8, .ireturn, 1), (9, .aload_n 0, 1), (10, .iload_n 1, 1), (11, .invokevirtual 341, 3), (14, .ifCond .eq 9, 3), (17, .aload_n 0, 1), (18, .iload_n 1, 1), (19, .invokevirtual 341, 3), (22, .ireturn, 1), (23, .iconst 0, 1), (24, .istore_n 2, 1), (25, .iload_n 2, 1), (26, .aload_n 0, 1), (27, .getfield 72, 3), (30, .iload_n 1, 1), (31, .iaload, 1), (32, .if_icmp .lt 11, 3), (35, .iload_n 2, 1), (36, .aload_n 0, 1), (37, .getfield 94, 3), (40, .if_icmp .ge 49, 3), (43, .iload_n 2, 1), (44, .aload_n 0, 1), (45, .getfield 72, 3), (48, .iload_n 1, 1), (49, .iaload, 1), (50, .if_icmp .ge 31, 3), (53, .iload_n 2, 1), (54, .aload_n 0, 1), (55, .getfield 94, 3), (58, .if_icmp .ge 23, 3), (61, .aload_n 0, 1), (62, .getfield 78, 3), (65, .bipush 20, 2), (67, .iload_n 1, 1), (68, .imul, 1)] = true := by decide +kernel
theorem dX9_judge_0 : decode cX9_judge 0 = .ok (.iload_n 1, 1) := dq daX9_judge_0 (i := 0) rfl
theorem dX9_judge_1 : decode cX9_judge 1 = .ok (.invokestatic 330, 3) := dq daX9_judge_0 (i := 1) rfl
theorem dX9_judge_4 : decode cX9_judge 4 = .ok (.ifCond .ne 5, 3) := dq daX9_judge_0 (i := 2) rfl
theorem dX9_judge_7 : decode cX9_judge 7 = .ok (.iconst (-1), 1) := dq daX9_judge_0 (i := 3) rfl
theorem dX9_judge_8 : decode cX9_judge 8 = .ok (.ireturn, 1) := dq daX9_judge_0 (i := 4) rfl
theorem dX9_judge_9 : decode cX9_judge 9 = .ok (.aload_n 0, 1) := dq daX9_judge_0 (i := 5) rfl
theorem dX9_judge_10 : decode cX9_judge 10 = .ok (.iload_n 1, 1) := dq daX9_judge_0 (i := 6) rfl
theorem dX9_judge_11 : decode cX9_judge 11 = .ok (.invokevirtual 341, 3) := dq daX9_judge_0 (i := 7) rfl
theorem dX9_judge_14 : decode cX9_judge 14 = .ok (.ifCond .eq 9, 3) := dq daX9_judge_0 (i := 8) rfl
theorem dX9_judge_17 : decode cX9_judge 17 = .ok (.aload_n 0, 1) := dq daX9_judge_0 (i := 9) rfl
theorem dX9_judge_18 : decode cX9_judge 18 = .ok (.iload_n 1, 1) := dq daX9_judge_0 (i := 10) rfl
theorem dX9_judge_19 : decode cX9_judge 19 = .ok (.invokevirtual 341, 3) := dq daX9_judge_0 (i := 11) rfl
theorem dX9_judge_22 : decode cX9_judge 22 = .ok (.ireturn, 1) := dq daX9_judge_0 (i := 12) rfl
theorem dX9_judge_23 : decode cX9_judge 23 = .ok (.iconst 0, 1) := dq daX9_judge_0 (i := 13) rfl
theorem dX9_judge_24 : decode cX9_judge 24 = .ok (.istore_n 2, 1) := dq daX9_judge_0 (i := 14) rfl
theorem dX9_judge_25 : decode cX9_judge 25 = .ok (.iload_n 2, 1) := dq daX9_judge_0 (i := 15) rfl
theorem dX9_judge_26 : decode cX9_judge 26 = .ok (.aload_n 0, 1) := dq daX9_judge_0 (i := 16) rfl
theorem dX9_judge_27 : decode cX9_judge 27 = .ok (.getfield 72, 3) := dq daX9_judge_0 (i := 17) rfl
theorem dX9_judge_30 : decode cX9_judge 30 = .ok (.iload_n 1, 1) := dq daX9_judge_0 (i := 18) rfl
theorem dX9_judge_31 : decode cX9_judge 31 = .ok (.iaload, 1) := dq daX9_judge_0 (i := 19) rfl
theorem dX9_judge_32 : decode cX9_judge 32 = .ok (.if_icmp .lt 11, 3) := dq daX9_judge_0 (i := 20) rfl
theorem dX9_judge_35 : decode cX9_judge 35 = .ok (.iload_n 2, 1) := dq daX9_judge_0 (i := 21) rfl
theorem dX9_judge_36 : decode cX9_judge 36 = .ok (.aload_n 0, 1) := dq daX9_judge_0 (i := 22) rfl
theorem dX9_judge_37 : decode cX9_judge 37 = .ok (.getfield 94, 3) := dq daX9_judge_0 (i := 23) rfl
theorem dX9_judge_40 : decode cX9_judge 40 = .ok (.if_icmp .ge 49, 3) := dq daX9_judge_0 (i := 24) rfl
theorem dX9_judge_43 : decode cX9_judge 43 = .ok (.iload_n 2, 1) := dq daX9_judge_0 (i := 25) rfl
theorem dX9_judge_44 : decode cX9_judge 44 = .ok (.aload_n 0, 1) := dq daX9_judge_0 (i := 26) rfl
theorem dX9_judge_45 : decode cX9_judge 45 = .ok (.getfield 72, 3) := dq daX9_judge_0 (i := 27) rfl
theorem dX9_judge_48 : decode cX9_judge 48 = .ok (.iload_n 1, 1) := dq daX9_judge_0 (i := 28) rfl
theorem dX9_judge_49 : decode cX9_judge 49 = .ok (.iaload, 1) := dq daX9_judge_0 (i := 29) rfl
theorem dX9_judge_50 : decode cX9_judge 50 = .ok (.if_icmp .ge 31, 3) := dq daX9_judge_0 (i := 30) rfl
theorem dX9_judge_53 : decode cX9_judge 53 = .ok (.iload_n 2, 1) := dq daX9_judge_0 (i := 31) rfl
theorem dX9_judge_54 : decode cX9_judge 54 = .ok (.aload_n 0, 1) := dq daX9_judge_0 (i := 32) rfl
theorem dX9_judge_55 : decode cX9_judge 55 = .ok (.getfield 94, 3) := dq daX9_judge_0 (i := 33) rfl
theorem dX9_judge_58 : decode cX9_judge 58 = .ok (.if_icmp .ge 23, 3) := dq daX9_judge_0 (i := 34) rfl
theorem dX9_judge_61 : decode cX9_judge 61 = .ok (.aload_n 0, 1) := dq daX9_judge_0 (i := 35) rfl
theorem dX9_judge_62 : decode cX9_judge 62 = .ok (.getfield 78, 3) := dq daX9_judge_0 (i := 36) rfl
theorem dX9_judge_65 : decode cX9_judge 65 = .ok (.bipush 20, 2) := dq daX9_judge_0 (i := 37) rfl
theorem dX9_judge_67 : decode cX9_judge 67 = .ok (.iload_n 1, 1) := dq daX9_judge_0 (i := 38) rfl
theorem dX9_judge_68 : decode cX9_judge 68 = .ok (.imul, 1) := dq daX9_judge_0 (i := 39) rfl
theorem daX9_judge_40 : dchk cX9_judge [(69, .iload_n 2, 1), (70, .iadd, 1), (71, .iaload, 1), (72, .aload_n 0, 1), (73, .getfield 19, 3), (76, .iload_n 2, 1), (77, .iaload, 1), (78, .if_icmp .eq 5, 3), (81, .iload_n 2, 1), (82, .ireturn, 1), (83, .iinc 2 1, 3), (86, .goto (-61), 3), (89, .bipush (-2), 2), (91, .ireturn, 1)] = true := by decide +kernel
theorem dX9_judge_69 : decode cX9_judge 69 = .ok (.iload_n 2, 1) := dq daX9_judge_40 (i := 0) rfl
theorem dX9_judge_70 : decode cX9_judge 70 = .ok (.iadd, 1) := dq daX9_judge_40 (i := 1) rfl
theorem dX9_judge_71 : decode cX9_judge 71 = .ok (.iaload, 1) := dq daX9_judge_40 (i := 2) rfl
theorem dX9_judge_72 : decode cX9_judge 72 = .ok (.aload_n 0, 1) := dq daX9_judge_40 (i := 3) rfl
theorem dX9_judge_73 : decode cX9_judge 73 = .ok (.getfield 19, 3) := dq daX9_judge_40 (i := 4) rfl
theorem dX9_judge_76 : decode cX9_judge 76 = .ok (.iload_n 2, 1) := dq daX9_judge_40 (i := 5) rfl
theorem dX9_judge_77 : decode cX9_judge 77 = .ok (.iaload, 1) := dq daX9_judge_40 (i := 6) rfl
theorem dX9_judge_78 : decode cX9_judge 78 = .ok (.if_icmp .eq 5, 3) := dq daX9_judge_40 (i := 7) rfl
theorem dX9_judge_81 : decode cX9_judge 81 = .ok (.iload_n 2, 1) := dq daX9_judge_40 (i := 8) rfl
theorem dX9_judge_82 : decode cX9_judge 82 = .ok (.ireturn, 1) := dq daX9_judge_40 (i := 9) rfl
theorem dX9_judge_83 : decode cX9_judge 83 = .ok (.iinc 2 1, 3) := dq daX9_judge_40 (i := 10) rfl
theorem dX9_judge_86 : decode cX9_judge 86 = .ok (.goto (-61), 3) := dq daX9_judge_40 (i := 11) rfl
theorem dX9_judge_89 : decode cX9_judge 89 = .ok (.bipush (-2), 2) := dq daX9_judge_40 (i := 12) rfl
theorem dX9_judge_91 : decode cX9_judge 91 = .ok (.ireturn, 1) := dq daX9_judge_40 (i := 13) rfl
theorem daX9_image_0 : dchk cX9_image [(0, .aload_n 0, 1), (1, .aload_n 0, 1), (2, .getfield 81, 3), (5, .iconst 0, 1), (6, .invokevirtual 97, 3), (9, .aload_n 0, 1), (10, .iconst 1, 1), (11, .putfield 344, 3), (14, .aload_n 0, 1), (15, .getfield 91, 3), (18, .ireturn, 1)] = true := by decide +kernel
theorem dX9_image_0 : decode cX9_image 0 = .ok (.aload_n 0, 1) := dq daX9_image_0 (i := 0) rfl
theorem dX9_image_1 : decode cX9_image 1 = .ok (.aload_n 0, 1) := dq daX9_image_0 (i := 1) rfl
theorem dX9_image_2 : decode cX9_image 2 = .ok (.getfield 81, 3) := dq daX9_image_0 (i := 2) rfl
theorem dX9_image_5 : decode cX9_image 5 = .ok (.iconst 0, 1) := dq daX9_image_0 (i := 3) rfl
theorem dX9_image_6 : decode cX9_image 6 = .ok (.invokevirtual 97, 3) := dq daX9_image_0 (i := 4) rfl
theorem dX9_image_9 : decode cX9_image 9 = .ok (.aload_n 0, 1) := dq daX9_image_0 (i := 5) rfl
theorem dX9_image_10 : decode cX9_image 10 = .ok (.iconst 1, 1) := dq daX9_image_0 (i := 6) rfl
theorem dX9_image_11 : decode cX9_image 11 = .ok (.putfield 344, 3) := dq daX9_image_0 (i := 7) rfl
theorem dX9_image_14 : decode cX9_image 14 = .ok (.aload_n 0, 1) := dq daX9_image_0 (i := 8) rfl
theorem dX9_image_15 : decode cX9_image 15 = .ok (.getfield 91, 3) := dq daX9_image_0 (i := 9) rfl
theorem dX9_image_18 : decode cX9_image 18 = .ok (.ireturn, 1) := dq daX9_image_0 (i := 10) rfl
theorem daX9_restore_0 : dchk cX9_restore [(0, .aload_n 0, 1), (1, .getfield 344, 3), (4, .ifCond .ne 6, 3), (7, .bipush (-5), 2), (9, .ireturn, 1), (10, .aload_n 0, 1), (11, .aload_n 0, 1), (12, .getfield 81, 3), (15, .iconst 0, 1), (16, .invokevirtual 107, 3), (19, .aload_n 0, 1), (20, .iconst 0, 1), (21, .putfield 101, 3), (24, .aload_n 0, 1), (25, .iconst 0, 1), (26, .putfield 104, 3), (29, .aload_n 0, 1), (30, .getfield 91, 3), (33, .ireturn, 1)] = true := by decide +kernel
theorem dX9_restore_0 : decode cX9_restore 0 = .ok (.aload_n 0, 1) := dq daX9_restore_0 (i := 0) rfl
theorem dX9_restore_1 : decode cX9_restore 1 = .ok (.getfield 344, 3) := dq daX9_restore_0 (i := 1) rfl
theorem dX9_restore_4 : decode cX9_restore 4 = .ok (.ifCond .ne 6, 3) := dq daX9_restore_0 (i := 2) rfl
theorem dX9_restore_7 : decode cX9_restore 7 = .ok (.bipush (-5), 2) := dq daX9_restore_0 (i := 3) rfl
theorem dX9_restore_9 : decode cX9_restore 9 = .ok (.ireturn, 1) := dq daX9_restore_0 (i := 4) rfl
theorem dX9_restore_10 : decode cX9_restore 10 = .ok (.aload_n 0, 1) := dq daX9_restore_0 (i := 5) rfl
theorem dX9_restore_11 : decode cX9_restore 11 = .ok (.aload_n 0, 1) := dq daX9_restore_0 (i := 6) rfl
theorem dX9_restore_12 : decode cX9_restore 12 = .ok (.getfield 81, 3) := dq daX9_restore_0 (i := 7) rfl
theorem dX9_restore_15 : decode cX9_restore 15 = .ok (.iconst 0, 1) := dq daX9_restore_0 (i := 8) rfl
theorem dX9_restore_16 : decode cX9_restore 16 = .ok (.invokevirtual 107, 3) := dq daX9_restore_0 (i := 9) rfl
theorem dX9_restore_19 : decode cX9_restore 19 = .ok (.aload_n 0, 1) := dq daX9_restore_0 (i := 10) rfl
theorem dX9_restore_20 : decode cX9_restore 20 = .ok (.iconst 0, 1) := dq daX9_restore_0 (i := 11) rfl
theorem dX9_restore_21 : decode cX9_restore 21 = .ok (.putfield 101, 3) := dq daX9_restore_0 (i := 12) rfl
theorem dX9_restore_24 : decode cX9_restore 24 = .ok (.aload_n 0, 1) := dq daX9_restore_0 (i := 13) rfl
theorem dX9_restore_25 : decode cX9_restore 25 = .ok (.iconst 0, 1) := dq daX9_restore_0 (i := 14) rfl
theorem dX9_restore_26 : decode cX9_restore 26 = .ok (.putfield 104, 3) := dq daX9_restore_0 (i := 15) rfl
theorem dX9_restore_29 : decode cX9_restore 29 = .ok (.aload_n 0, 1) := dq daX9_restore_0 (i := 16) rfl
theorem dX9_restore_30 : decode cX9_restore 30 = .ok (.getfield 91, 3) := dq daX9_restore_0 (i := 17) rfl
theorem dX9_restore_33 : decode cX9_restore 33 = .ok (.ireturn, 1) := dq daX9_restore_0 (i := 18) rfl
theorem daX9_count_0 : dchk cX9_count [(0, .iload_n 1, 1), (1, .tableswitch 78 0 6 #[43, 48, 53, 58, 63, 68, 73], 43), (44, .aload_n 0, 1), (45, .getfield 88, 3), (48, .ireturn, 1), (49, .aload_n 0, 1), (50, .getfield 91, 3), (53, .ireturn, 1), (54, .aload_n 0, 1), (55, .getfield 15, 3), (58, .ireturn, 1), (59, .aload_n 0, 1), (60, .getfield 94, 3), (63, .ireturn, 1), (64, .aload_n 0, 1), (65, .getfield 101, 3), (68, .ireturn, 1), (69, .aload_n 0, 1), (70, .getfield 104, 3), (73, .ireturn, 1), (74, .aload_n 0, 1), (75, .getfield 258, 3), (78, .ireturn, 1), (79, .iconst (-1), 1), (80, .ireturn, 1)] = true := by decide +kernel
theorem dX9_count_0 : decode cX9_count 0 = .ok (.iload_n 1, 1) := dq daX9_count_0 (i := 0) rfl
theorem dX9_count_1 : decode cX9_count 1 = .ok (.tableswitch 78 0 6 #[43, 48, 53, 58, 63, 68, 73], 43) := dq daX9_count_0 (i := 1) rfl
theorem dX9_count_44 : decode cX9_count 44 = .ok (.aload_n 0, 1) := dq daX9_count_0 (i := 2) rfl
theorem dX9_count_45 : decode cX9_count 45 = .ok (.getfield 88, 3) := dq daX9_count_0 (i := 3) rfl
theorem dX9_count_48 : decode cX9_count 48 = .ok (.ireturn, 1) := dq daX9_count_0 (i := 4) rfl
theorem dX9_count_49 : decode cX9_count 49 = .ok (.aload_n 0, 1) := dq daX9_count_0 (i := 5) rfl
theorem dX9_count_50 : decode cX9_count 50 = .ok (.getfield 91, 3) := dq daX9_count_0 (i := 6) rfl
theorem dX9_count_53 : decode cX9_count 53 = .ok (.ireturn, 1) := dq daX9_count_0 (i := 7) rfl
theorem dX9_count_54 : decode cX9_count 54 = .ok (.aload_n 0, 1) := dq daX9_count_0 (i := 8) rfl
theorem dX9_count_55 : decode cX9_count 55 = .ok (.getfield 15, 3) := dq daX9_count_0 (i := 9) rfl
theorem dX9_count_58 : decode cX9_count 58 = .ok (.ireturn, 1) := dq daX9_count_0 (i := 10) rfl
theorem dX9_count_59 : decode cX9_count 59 = .ok (.aload_n 0, 1) := dq daX9_count_0 (i := 11) rfl
theorem dX9_count_60 : decode cX9_count 60 = .ok (.getfield 94, 3) := dq daX9_count_0 (i := 12) rfl
theorem dX9_count_63 : decode cX9_count 63 = .ok (.ireturn, 1) := dq daX9_count_0 (i := 13) rfl
theorem dX9_count_64 : decode cX9_count 64 = .ok (.aload_n 0, 1) := dq daX9_count_0 (i := 14) rfl
theorem dX9_count_65 : decode cX9_count 65 = .ok (.getfield 101, 3) := dq daX9_count_0 (i := 15) rfl
theorem dX9_count_68 : decode cX9_count 68 = .ok (.ireturn, 1) := dq daX9_count_0 (i := 16) rfl
theorem dX9_count_69 : decode cX9_count 69 = .ok (.aload_n 0, 1) := dq daX9_count_0 (i := 17) rfl
theorem dX9_count_70 : decode cX9_count 70 = .ok (.getfield 104, 3) := dq daX9_count_0 (i := 18) rfl
theorem dX9_count_73 : decode cX9_count 73 = .ok (.ireturn, 1) := dq daX9_count_0 (i := 19) rfl
theorem dX9_count_74 : decode cX9_count 74 = .ok (.aload_n 0, 1) := dq daX9_count_0 (i := 20) rfl
theorem dX9_count_75 : decode cX9_count 75 = .ok (.getfield 258, 3) := dq daX9_count_0 (i := 21) rfl
theorem dX9_count_78 : decode cX9_count 78 = .ok (.ireturn, 1) := dq daX9_count_0 (i := 22) rfl
theorem dX9_count_79 : decode cX9_count 79 = .ok (.iconst (-1), 1) := dq daX9_count_0 (i := 23) rfl
theorem dX9_count_80 : decode cX9_count 80 = .ok (.ireturn, 1) := dq daX9_count_0 (i := 24) rfl
theorem daJ6_bitCount_0f7a4_0 : dchk cJ6_bitCount_0f7a4 [(0, .iload_n 0, 1), (1, .iload_n 0, 1), (2, .iconst 1, 1), (3, .iushr, 1), (4, .ldc_w 265, 3), (7, .iand, 1), (8, .isub, 1), (9, .istore_n 0, 1), (10, .iload_n 0, 1), (11, .ldc_w 266, 3), (14, .iand, 1), (15, .iload_n 0, 1), (16, .iconst 2, 1), (17, .iushr, 1), (18, .ldc_w 266, 3), (21, .iand, 1), (22, .iadd, 1), (23, .istore_n 0, 1), (24, .iload_n 0, 1), (25, .iload_n 0, 1), (26, .iconst 4, 1), (27, .iushr, 1), (28, .iadd, 1), (29, .ldc_w 267, 3), (32, .iand, 1), (33, .istore_n 0, 1), (34, .iload_n 0, 1), (35, .iload_n 0, 1), (36, .bipush 8, 2), (38, .iushr, 1), (39, .iadd, 1), (40, .istore_n 0, 1), (41, .iload_n 0, 1), (42, .iload_n 0, 1), (43, .bipush 16, 2), (45, .iushr, 1), (46, .iadd, 1), (47, .istore_n 0, 1), (48, .iload_n 0, 1), (49, .bipush 63, 2)] = true := by decide +kernel
theorem dJ6_bitCount_0f7a4_0 : decode cJ6_bitCount_0f7a4 0 = .ok (.iload_n 0, 1) := dq daJ6_bitCount_0f7a4_0 (i := 0) rfl
theorem dJ6_bitCount_0f7a4_1 : decode cJ6_bitCount_0f7a4 1 = .ok (.iload_n 0, 1) := dq daJ6_bitCount_0f7a4_0 (i := 1) rfl
theorem dJ6_bitCount_0f7a4_2 : decode cJ6_bitCount_0f7a4 2 = .ok (.iconst 1, 1) := dq daJ6_bitCount_0f7a4_0 (i := 2) rfl
theorem dJ6_bitCount_0f7a4_3 : decode cJ6_bitCount_0f7a4 3 = .ok (.iushr, 1) := dq daJ6_bitCount_0f7a4_0 (i := 3) rfl
theorem dJ6_bitCount_0f7a4_4 : decode cJ6_bitCount_0f7a4 4 = .ok (.ldc_w 265, 3) := dq daJ6_bitCount_0f7a4_0 (i := 4) rfl
theorem dJ6_bitCount_0f7a4_7 : decode cJ6_bitCount_0f7a4 7 = .ok (.iand, 1) := dq daJ6_bitCount_0f7a4_0 (i := 5) rfl
theorem dJ6_bitCount_0f7a4_8 : decode cJ6_bitCount_0f7a4 8 = .ok (.isub, 1) := dq daJ6_bitCount_0f7a4_0 (i := 6) rfl
theorem dJ6_bitCount_0f7a4_9 : decode cJ6_bitCount_0f7a4 9 = .ok (.istore_n 0, 1) := dq daJ6_bitCount_0f7a4_0 (i := 7) rfl
theorem dJ6_bitCount_0f7a4_10 : decode cJ6_bitCount_0f7a4 10 = .ok (.iload_n 0, 1) := dq daJ6_bitCount_0f7a4_0 (i := 8) rfl
theorem dJ6_bitCount_0f7a4_11 : decode cJ6_bitCount_0f7a4 11 = .ok (.ldc_w 266, 3) := dq daJ6_bitCount_0f7a4_0 (i := 9) rfl
theorem dJ6_bitCount_0f7a4_14 : decode cJ6_bitCount_0f7a4 14 = .ok (.iand, 1) := dq daJ6_bitCount_0f7a4_0 (i := 10) rfl
theorem dJ6_bitCount_0f7a4_15 : decode cJ6_bitCount_0f7a4 15 = .ok (.iload_n 0, 1) := dq daJ6_bitCount_0f7a4_0 (i := 11) rfl
theorem dJ6_bitCount_0f7a4_16 : decode cJ6_bitCount_0f7a4 16 = .ok (.iconst 2, 1) := dq daJ6_bitCount_0f7a4_0 (i := 12) rfl
theorem dJ6_bitCount_0f7a4_17 : decode cJ6_bitCount_0f7a4 17 = .ok (.iushr, 1) := dq daJ6_bitCount_0f7a4_0 (i := 13) rfl
theorem dJ6_bitCount_0f7a4_18 : decode cJ6_bitCount_0f7a4 18 = .ok (.ldc_w 266, 3) := dq daJ6_bitCount_0f7a4_0 (i := 14) rfl
theorem dJ6_bitCount_0f7a4_21 : decode cJ6_bitCount_0f7a4 21 = .ok (.iand, 1) := dq daJ6_bitCount_0f7a4_0 (i := 15) rfl
theorem dJ6_bitCount_0f7a4_22 : decode cJ6_bitCount_0f7a4 22 = .ok (.iadd, 1) := dq daJ6_bitCount_0f7a4_0 (i := 16) rfl
theorem dJ6_bitCount_0f7a4_23 : decode cJ6_bitCount_0f7a4 23 = .ok (.istore_n 0, 1) := dq daJ6_bitCount_0f7a4_0 (i := 17) rfl
theorem dJ6_bitCount_0f7a4_24 : decode cJ6_bitCount_0f7a4 24 = .ok (.iload_n 0, 1) := dq daJ6_bitCount_0f7a4_0 (i := 18) rfl
theorem dJ6_bitCount_0f7a4_25 : decode cJ6_bitCount_0f7a4 25 = .ok (.iload_n 0, 1) := dq daJ6_bitCount_0f7a4_0 (i := 19) rfl
theorem dJ6_bitCount_0f7a4_26 : decode cJ6_bitCount_0f7a4 26 = .ok (.iconst 4, 1) := dq daJ6_bitCount_0f7a4_0 (i := 20) rfl
theorem dJ6_bitCount_0f7a4_27 : decode cJ6_bitCount_0f7a4 27 = .ok (.iushr, 1) := dq daJ6_bitCount_0f7a4_0 (i := 21) rfl
theorem dJ6_bitCount_0f7a4_28 : decode cJ6_bitCount_0f7a4 28 = .ok (.iadd, 1) := dq daJ6_bitCount_0f7a4_0 (i := 22) rfl
theorem dJ6_bitCount_0f7a4_29 : decode cJ6_bitCount_0f7a4 29 = .ok (.ldc_w 267, 3) := dq daJ6_bitCount_0f7a4_0 (i := 23) rfl
theorem dJ6_bitCount_0f7a4_32 : decode cJ6_bitCount_0f7a4 32 = .ok (.iand, 1) := dq daJ6_bitCount_0f7a4_0 (i := 24) rfl
theorem dJ6_bitCount_0f7a4_33 : decode cJ6_bitCount_0f7a4 33 = .ok (.istore_n 0, 1) := dq daJ6_bitCount_0f7a4_0 (i := 25) rfl
theorem dJ6_bitCount_0f7a4_34 : decode cJ6_bitCount_0f7a4 34 = .ok (.iload_n 0, 1) := dq daJ6_bitCount_0f7a4_0 (i := 26) rfl
theorem dJ6_bitCount_0f7a4_35 : decode cJ6_bitCount_0f7a4 35 = .ok (.iload_n 0, 1) := dq daJ6_bitCount_0f7a4_0 (i := 27) rfl
theorem dJ6_bitCount_0f7a4_36 : decode cJ6_bitCount_0f7a4 36 = .ok (.bipush 8, 2) := dq daJ6_bitCount_0f7a4_0 (i := 28) rfl
theorem dJ6_bitCount_0f7a4_38 : decode cJ6_bitCount_0f7a4 38 = .ok (.iushr, 1) := dq daJ6_bitCount_0f7a4_0 (i := 29) rfl
theorem dJ6_bitCount_0f7a4_39 : decode cJ6_bitCount_0f7a4 39 = .ok (.iadd, 1) := dq daJ6_bitCount_0f7a4_0 (i := 30) rfl
theorem dJ6_bitCount_0f7a4_40 : decode cJ6_bitCount_0f7a4 40 = .ok (.istore_n 0, 1) := dq daJ6_bitCount_0f7a4_0 (i := 31) rfl
theorem dJ6_bitCount_0f7a4_41 : decode cJ6_bitCount_0f7a4 41 = .ok (.iload_n 0, 1) := dq daJ6_bitCount_0f7a4_0 (i := 32) rfl
theorem dJ6_bitCount_0f7a4_42 : decode cJ6_bitCount_0f7a4 42 = .ok (.iload_n 0, 1) := dq daJ6_bitCount_0f7a4_0 (i := 33) rfl
theorem dJ6_bitCount_0f7a4_43 : decode cJ6_bitCount_0f7a4 43 = .ok (.bipush 16, 2) := dq daJ6_bitCount_0f7a4_0 (i := 34) rfl
theorem dJ6_bitCount_0f7a4_45 : decode cJ6_bitCount_0f7a4 45 = .ok (.iushr, 1) := dq daJ6_bitCount_0f7a4_0 (i := 35) rfl
theorem dJ6_bitCount_0f7a4_46 : decode cJ6_bitCount_0f7a4 46 = .ok (.iadd, 1) := dq daJ6_bitCount_0f7a4_0 (i := 36) rfl
theorem dJ6_bitCount_0f7a4_47 : decode cJ6_bitCount_0f7a4 47 = .ok (.istore_n 0, 1) := dq daJ6_bitCount_0f7a4_0 (i := 37) rfl
theorem dJ6_bitCount_0f7a4_48 : decode cJ6_bitCount_0f7a4 48 = .ok (.iload_n 0, 1) := dq daJ6_bitCount_0f7a4_0 (i := 38) rfl
theorem dJ6_bitCount_0f7a4_49 : decode cJ6_bitCount_0f7a4 49 = .ok (.bipush 63, 2) := dq daJ6_bitCount_0f7a4_0 (i := 39) rfl
theorem daJ6_bitCount_0f7a4_40 : dchk cJ6_bitCount_0f7a4 [(51, .iand, 1), (52, .ireturn, 1)] = true := by decide +kernel
theorem dJ6_bitCount_0f7a4_51 : decode cJ6_bitCount_0f7a4 51 = .ok (.iand, 1) := dq daJ6_bitCount_0f7a4_40 (i := 0) rfl
theorem dJ6_bitCount_0f7a4_52 : decode cJ6_bitCount_0f7a4 52 = .ok (.ireturn, 1) := dq daJ6_bitCount_0f7a4_40 (i := 1) rfl
theorem daJ13_bitCount_95d88_0 : dchk cJ13_bitCount_95d88 [(0, .lload_n 0, 1), (1, .lload_n 0, 1), (2, .iconst 1, 1), (3, .lushr, 1), (4, .ldc2_w 314, 3), (7, .land, 1), (8, .lsub, 1), (9, .lstore_n 0, 1), (10, .lload_n 0, 1), (11, .ldc2_w 316, 3), (14, .land, 1), (15, .lload_n 0, 1), (16, .iconst 2, 1), (17, .lushr, 1), (18, .ldc2_w 316, 3), (21, .land, 1), (22, .ladd, 1), (23, .lstore_n 0, 1), (24, .lload_n 0, 1), (25, .lload_n 0, 1), (26, .iconst 4, 1), (27, .lushr, 1), (28, .ladd, 1), (29, .ldc2_w 318, 3), (32, .land, 1), (33, .lstore_n 0, 1), (34, .lload_n 0, 1), (35, .lload_n 0, 1), (36, .bipush 8, 2), (38, .lushr, 1), (39, .ladd, 1), (40, .lstore_n 0, 1), (41, .lload_n 0, 1), (42, .lload_n 0, 1), (43, .bipush 16, 2), (45, .lushr, 1), (46, .ladd, 1), (47, .lstore_n 0, 1), (48, .lload_n 0, 1), (49, .lload_n 0, 1)] = true := by decide +kernel
theorem dJ13_bitCount_95d88_0 : decode cJ13_bitCount_95d88 0 = .ok (.lload_n 0, 1) := dq daJ13_bitCount_95d88_0 (i := 0) rfl
theorem dJ13_bitCount_95d88_1 : decode cJ13_bitCount_95d88 1 = .ok (.lload_n 0, 1) := dq daJ13_bitCount_95d88_0 (i := 1) rfl
theorem dJ13_bitCount_95d88_2 : decode cJ13_bitCount_95d88 2 = .ok (.iconst 1, 1) := dq daJ13_bitCount_95d88_0 (i := 2) rfl
theorem dJ13_bitCount_95d88_3 : decode cJ13_bitCount_95d88 3 = .ok (.lushr, 1) := dq daJ13_bitCount_95d88_0 (i := 3) rfl
theorem dJ13_bitCount_95d88_4 : decode cJ13_bitCount_95d88 4 = .ok (.ldc2_w 314, 3) := dq daJ13_bitCount_95d88_0 (i := 4) rfl
theorem dJ13_bitCount_95d88_7 : decode cJ13_bitCount_95d88 7 = .ok (.land, 1) := dq daJ13_bitCount_95d88_0 (i := 5) rfl
theorem dJ13_bitCount_95d88_8 : decode cJ13_bitCount_95d88 8 = .ok (.lsub, 1) := dq daJ13_bitCount_95d88_0 (i := 6) rfl
theorem dJ13_bitCount_95d88_9 : decode cJ13_bitCount_95d88 9 = .ok (.lstore_n 0, 1) := dq daJ13_bitCount_95d88_0 (i := 7) rfl
theorem dJ13_bitCount_95d88_10 : decode cJ13_bitCount_95d88 10 = .ok (.lload_n 0, 1) := dq daJ13_bitCount_95d88_0 (i := 8) rfl
theorem dJ13_bitCount_95d88_11 : decode cJ13_bitCount_95d88 11 = .ok (.ldc2_w 316, 3) := dq daJ13_bitCount_95d88_0 (i := 9) rfl
theorem dJ13_bitCount_95d88_14 : decode cJ13_bitCount_95d88 14 = .ok (.land, 1) := dq daJ13_bitCount_95d88_0 (i := 10) rfl
theorem dJ13_bitCount_95d88_15 : decode cJ13_bitCount_95d88 15 = .ok (.lload_n 0, 1) := dq daJ13_bitCount_95d88_0 (i := 11) rfl
theorem dJ13_bitCount_95d88_16 : decode cJ13_bitCount_95d88 16 = .ok (.iconst 2, 1) := dq daJ13_bitCount_95d88_0 (i := 12) rfl
theorem dJ13_bitCount_95d88_17 : decode cJ13_bitCount_95d88 17 = .ok (.lushr, 1) := dq daJ13_bitCount_95d88_0 (i := 13) rfl
theorem dJ13_bitCount_95d88_18 : decode cJ13_bitCount_95d88 18 = .ok (.ldc2_w 316, 3) := dq daJ13_bitCount_95d88_0 (i := 14) rfl
theorem dJ13_bitCount_95d88_21 : decode cJ13_bitCount_95d88 21 = .ok (.land, 1) := dq daJ13_bitCount_95d88_0 (i := 15) rfl
theorem dJ13_bitCount_95d88_22 : decode cJ13_bitCount_95d88 22 = .ok (.ladd, 1) := dq daJ13_bitCount_95d88_0 (i := 16) rfl
theorem dJ13_bitCount_95d88_23 : decode cJ13_bitCount_95d88 23 = .ok (.lstore_n 0, 1) := dq daJ13_bitCount_95d88_0 (i := 17) rfl
theorem dJ13_bitCount_95d88_24 : decode cJ13_bitCount_95d88 24 = .ok (.lload_n 0, 1) := dq daJ13_bitCount_95d88_0 (i := 18) rfl
theorem dJ13_bitCount_95d88_25 : decode cJ13_bitCount_95d88 25 = .ok (.lload_n 0, 1) := dq daJ13_bitCount_95d88_0 (i := 19) rfl
theorem dJ13_bitCount_95d88_26 : decode cJ13_bitCount_95d88 26 = .ok (.iconst 4, 1) := dq daJ13_bitCount_95d88_0 (i := 20) rfl
theorem dJ13_bitCount_95d88_27 : decode cJ13_bitCount_95d88 27 = .ok (.lushr, 1) := dq daJ13_bitCount_95d88_0 (i := 21) rfl
theorem dJ13_bitCount_95d88_28 : decode cJ13_bitCount_95d88 28 = .ok (.ladd, 1) := dq daJ13_bitCount_95d88_0 (i := 22) rfl
theorem dJ13_bitCount_95d88_29 : decode cJ13_bitCount_95d88 29 = .ok (.ldc2_w 318, 3) := dq daJ13_bitCount_95d88_0 (i := 23) rfl
theorem dJ13_bitCount_95d88_32 : decode cJ13_bitCount_95d88 32 = .ok (.land, 1) := dq daJ13_bitCount_95d88_0 (i := 24) rfl
theorem dJ13_bitCount_95d88_33 : decode cJ13_bitCount_95d88 33 = .ok (.lstore_n 0, 1) := dq daJ13_bitCount_95d88_0 (i := 25) rfl
theorem dJ13_bitCount_95d88_34 : decode cJ13_bitCount_95d88 34 = .ok (.lload_n 0, 1) := dq daJ13_bitCount_95d88_0 (i := 26) rfl
theorem dJ13_bitCount_95d88_35 : decode cJ13_bitCount_95d88 35 = .ok (.lload_n 0, 1) := dq daJ13_bitCount_95d88_0 (i := 27) rfl
theorem dJ13_bitCount_95d88_36 : decode cJ13_bitCount_95d88 36 = .ok (.bipush 8, 2) := dq daJ13_bitCount_95d88_0 (i := 28) rfl
theorem dJ13_bitCount_95d88_38 : decode cJ13_bitCount_95d88 38 = .ok (.lushr, 1) := dq daJ13_bitCount_95d88_0 (i := 29) rfl
theorem dJ13_bitCount_95d88_39 : decode cJ13_bitCount_95d88 39 = .ok (.ladd, 1) := dq daJ13_bitCount_95d88_0 (i := 30) rfl
theorem dJ13_bitCount_95d88_40 : decode cJ13_bitCount_95d88 40 = .ok (.lstore_n 0, 1) := dq daJ13_bitCount_95d88_0 (i := 31) rfl
theorem dJ13_bitCount_95d88_41 : decode cJ13_bitCount_95d88 41 = .ok (.lload_n 0, 1) := dq daJ13_bitCount_95d88_0 (i := 32) rfl
theorem dJ13_bitCount_95d88_42 : decode cJ13_bitCount_95d88 42 = .ok (.lload_n 0, 1) := dq daJ13_bitCount_95d88_0 (i := 33) rfl
theorem dJ13_bitCount_95d88_43 : decode cJ13_bitCount_95d88 43 = .ok (.bipush 16, 2) := dq daJ13_bitCount_95d88_0 (i := 34) rfl
theorem dJ13_bitCount_95d88_45 : decode cJ13_bitCount_95d88 45 = .ok (.lushr, 1) := dq daJ13_bitCount_95d88_0 (i := 35) rfl
theorem dJ13_bitCount_95d88_46 : decode cJ13_bitCount_95d88 46 = .ok (.ladd, 1) := dq daJ13_bitCount_95d88_0 (i := 36) rfl
theorem dJ13_bitCount_95d88_47 : decode cJ13_bitCount_95d88 47 = .ok (.lstore_n 0, 1) := dq daJ13_bitCount_95d88_0 (i := 37) rfl
theorem dJ13_bitCount_95d88_48 : decode cJ13_bitCount_95d88 48 = .ok (.lload_n 0, 1) := dq daJ13_bitCount_95d88_0 (i := 38) rfl
theorem dJ13_bitCount_95d88_49 : decode cJ13_bitCount_95d88 49 = .ok (.lload_n 0, 1) := dq daJ13_bitCount_95d88_0 (i := 39) rfl
theorem daJ13_bitCount_95d88_40 : dchk cJ13_bitCount_95d88 [(50, .bipush 32, 2), (52, .lushr, 1), (53, .ladd, 1), (54, .lstore_n 0, 1), (55, .lload_n 0, 1), (56, .l2i, 1), (57, .bipush 127, 2), (59, .iand, 1), (60, .ireturn, 1)] = true := by decide +kernel
theorem dJ13_bitCount_95d88_50 : decode cJ13_bitCount_95d88 50 = .ok (.bipush 32, 2) := dq daJ13_bitCount_95d88_40 (i := 0) rfl
theorem dJ13_bitCount_95d88_52 : decode cJ13_bitCount_95d88 52 = .ok (.lushr, 1) := dq daJ13_bitCount_95d88_40 (i := 1) rfl
theorem dJ13_bitCount_95d88_53 : decode cJ13_bitCount_95d88 53 = .ok (.ladd, 1) := dq daJ13_bitCount_95d88_40 (i := 2) rfl
theorem dJ13_bitCount_95d88_54 : decode cJ13_bitCount_95d88 54 = .ok (.lstore_n 0, 1) := dq daJ13_bitCount_95d88_40 (i := 3) rfl
theorem dJ13_bitCount_95d88_55 : decode cJ13_bitCount_95d88 55 = .ok (.lload_n 0, 1) := dq daJ13_bitCount_95d88_40 (i := 4) rfl
theorem dJ13_bitCount_95d88_56 : decode cJ13_bitCount_95d88 56 = .ok (.l2i, 1) := dq daJ13_bitCount_95d88_40 (i := 5) rfl
theorem dJ13_bitCount_95d88_57 : decode cJ13_bitCount_95d88 57 = .ok (.bipush 127, 2) := dq daJ13_bitCount_95d88_40 (i := 6) rfl
theorem dJ13_bitCount_95d88_59 : decode cJ13_bitCount_95d88 59 = .ok (.iand, 1) := dq daJ13_bitCount_95d88_40 (i := 7) rfl
theorem dJ13_bitCount_95d88_60 : decode cJ13_bitCount_95d88 60 = .ok (.ireturn, 1) := dq daJ13_bitCount_95d88_40 (i := 8) rfl
theorem daJ9_floorMod_f86c9_0 : dchk cJ9_floorMod_f86c9 [(0, .lload_n 0, 1), (1, .lload_n 2, 1), (2, .lrem, 1), (3, .lstore 4, 2), (5, .lload_n 0, 1), (6, .lload_n 2, 1), (7, .lxor, 1), (8, .lconst 0, 1), (9, .lcmp, 1), (10, .ifCond .ge 15, 3), (13, .lload 4, 2), (15, .lconst 0, 1), (16, .lcmp, 1), (17, .ifCond .eq 8, 3), (20, .lload 4, 2), (22, .lload_n 2, 1), (23, .ladd, 1), (24, .lreturn, 1), (25, .lload 4, 2), (27, .lreturn, 1)] = true := by decide +kernel
theorem dJ9_floorMod_f86c9_0 : decode cJ9_floorMod_f86c9 0 = .ok (.lload_n 0, 1) := dq daJ9_floorMod_f86c9_0 (i := 0) rfl
theorem dJ9_floorMod_f86c9_1 : decode cJ9_floorMod_f86c9 1 = .ok (.lload_n 2, 1) := dq daJ9_floorMod_f86c9_0 (i := 1) rfl
theorem dJ9_floorMod_f86c9_2 : decode cJ9_floorMod_f86c9 2 = .ok (.lrem, 1) := dq daJ9_floorMod_f86c9_0 (i := 2) rfl
theorem dJ9_floorMod_f86c9_3 : decode cJ9_floorMod_f86c9 3 = .ok (.lstore 4, 2) := dq daJ9_floorMod_f86c9_0 (i := 3) rfl
theorem dJ9_floorMod_f86c9_5 : decode cJ9_floorMod_f86c9 5 = .ok (.lload_n 0, 1) := dq daJ9_floorMod_f86c9_0 (i := 4) rfl
theorem dJ9_floorMod_f86c9_6 : decode cJ9_floorMod_f86c9 6 = .ok (.lload_n 2, 1) := dq daJ9_floorMod_f86c9_0 (i := 5) rfl
theorem dJ9_floorMod_f86c9_7 : decode cJ9_floorMod_f86c9 7 = .ok (.lxor, 1) := dq daJ9_floorMod_f86c9_0 (i := 6) rfl
theorem dJ9_floorMod_f86c9_8 : decode cJ9_floorMod_f86c9 8 = .ok (.lconst 0, 1) := dq daJ9_floorMod_f86c9_0 (i := 7) rfl
theorem dJ9_floorMod_f86c9_9 : decode cJ9_floorMod_f86c9 9 = .ok (.lcmp, 1) := dq daJ9_floorMod_f86c9_0 (i := 8) rfl
theorem dJ9_floorMod_f86c9_10 : decode cJ9_floorMod_f86c9 10 = .ok (.ifCond .ge 15, 3) := dq daJ9_floorMod_f86c9_0 (i := 9) rfl
theorem dJ9_floorMod_f86c9_13 : decode cJ9_floorMod_f86c9 13 = .ok (.lload 4, 2) := dq daJ9_floorMod_f86c9_0 (i := 10) rfl
theorem dJ9_floorMod_f86c9_15 : decode cJ9_floorMod_f86c9 15 = .ok (.lconst 0, 1) := dq daJ9_floorMod_f86c9_0 (i := 11) rfl
theorem dJ9_floorMod_f86c9_16 : decode cJ9_floorMod_f86c9 16 = .ok (.lcmp, 1) := dq daJ9_floorMod_f86c9_0 (i := 12) rfl
theorem dJ9_floorMod_f86c9_17 : decode cJ9_floorMod_f86c9 17 = .ok (.ifCond .eq 8, 3) := dq daJ9_floorMod_f86c9_0 (i := 13) rfl
theorem dJ9_floorMod_f86c9_20 : decode cJ9_floorMod_f86c9 20 = .ok (.lload 4, 2) := dq daJ9_floorMod_f86c9_0 (i := 14) rfl
theorem dJ9_floorMod_f86c9_22 : decode cJ9_floorMod_f86c9 22 = .ok (.lload_n 2, 1) := dq daJ9_floorMod_f86c9_0 (i := 15) rfl
theorem dJ9_floorMod_f86c9_23 : decode cJ9_floorMod_f86c9 23 = .ok (.ladd, 1) := dq daJ9_floorMod_f86c9_0 (i := 16) rfl
theorem dJ9_floorMod_f86c9_24 : decode cJ9_floorMod_f86c9 24 = .ok (.lreturn, 1) := dq daJ9_floorMod_f86c9_0 (i := 17) rfl
theorem dJ9_floorMod_f86c9_25 : decode cJ9_floorMod_f86c9 25 = .ok (.lload 4, 2) := dq daJ9_floorMod_f86c9_0 (i := 18) rfl
theorem dJ9_floorMod_f86c9_27 : decode cJ9_floorMod_f86c9 27 = .ok (.lreturn, 1) := dq daJ9_floorMod_f86c9_0 (i := 19) rfl
theorem daJ9_abs_067f4_0 : dchk cJ9_abs_067f4 [(0, .lload_n 0, 1), (1, .lconst 0, 1), (2, .lcmp, 1), (3, .ifCond .ge 8, 3), (6, .lload_n 0, 1), (7, .lneg, 1), (8, .goto 4, 3), (11, .lload_n 0, 1), (12, .lreturn, 1)] = true := by decide +kernel
theorem dJ9_abs_067f4_0 : decode cJ9_abs_067f4 0 = .ok (.lload_n 0, 1) := dq daJ9_abs_067f4_0 (i := 0) rfl
theorem dJ9_abs_067f4_1 : decode cJ9_abs_067f4 1 = .ok (.lconst 0, 1) := dq daJ9_abs_067f4_0 (i := 1) rfl
theorem dJ9_abs_067f4_2 : decode cJ9_abs_067f4 2 = .ok (.lcmp, 1) := dq daJ9_abs_067f4_0 (i := 2) rfl
theorem dJ9_abs_067f4_3 : decode cJ9_abs_067f4 3 = .ok (.ifCond .ge 8, 3) := dq daJ9_abs_067f4_0 (i := 3) rfl
theorem dJ9_abs_067f4_6 : decode cJ9_abs_067f4 6 = .ok (.lload_n 0, 1) := dq daJ9_abs_067f4_0 (i := 4) rfl
theorem dJ9_abs_067f4_7 : decode cJ9_abs_067f4 7 = .ok (.lneg, 1) := dq daJ9_abs_067f4_0 (i := 5) rfl
theorem dJ9_abs_067f4_8 : decode cJ9_abs_067f4 8 = .ok (.goto 4, 3) := dq daJ9_abs_067f4_0 (i := 6) rfl
theorem dJ9_abs_067f4_11 : decode cJ9_abs_067f4 11 = .ok (.lload_n 0, 1) := dq daJ9_abs_067f4_0 (i := 7) rfl
theorem dJ9_abs_067f4_12 : decode cJ9_abs_067f4 12 = .ok (.lreturn, 1) := dq daJ9_abs_067f4_0 (i := 8) rfl
theorem daJ9_max_7cf53_0 : dchk cJ9_max_7cf53 [(0, .iload_n 0, 1), (1, .iload_n 1, 1), (2, .if_icmp .lt 7, 3), (5, .iload_n 0, 1), (6, .goto 4, 3), (9, .iload_n 1, 1), (10, .ireturn, 1)] = true := by decide +kernel
theorem dJ9_max_7cf53_0 : decode cJ9_max_7cf53 0 = .ok (.iload_n 0, 1) := dq daJ9_max_7cf53_0 (i := 0) rfl
theorem dJ9_max_7cf53_1 : decode cJ9_max_7cf53 1 = .ok (.iload_n 1, 1) := dq daJ9_max_7cf53_0 (i := 1) rfl
theorem dJ9_max_7cf53_2 : decode cJ9_max_7cf53 2 = .ok (.if_icmp .lt 7, 3) := dq daJ9_max_7cf53_0 (i := 2) rfl
theorem dJ9_max_7cf53_5 : decode cJ9_max_7cf53 5 = .ok (.iload_n 0, 1) := dq daJ9_max_7cf53_0 (i := 3) rfl
theorem dJ9_max_7cf53_6 : decode cJ9_max_7cf53 6 = .ok (.goto 4, 3) := dq daJ9_max_7cf53_0 (i := 4) rfl
theorem dJ9_max_7cf53_9 : decode cJ9_max_7cf53 9 = .ok (.iload_n 1, 1) := dq daJ9_max_7cf53_0 (i := 5) rfl
theorem dJ9_max_7cf53_10 : decode cJ9_max_7cf53 10 = .ok (.ireturn, 1) := dq daJ9_max_7cf53_0 (i := 6) rfl
theorem daL_law_0 : dchk code [(0, .new 7, 3), (3, .dup, 1), (4, .invokespecial 9, 3), (7, .astore_n 1, 1), (8, .new 10, 3), (11, .dup, 1), (12, .invokespecial 12, 3), (15, .astore_n 2, 1), (16, .iconst 0, 1), (17, .istore_n 3, 1), (18, .iload_n 3, 1), (19, .aload_n 0, 1), (20, .arraylength, 1), (21, .iconst 5, 1), (22, .isub, 1), (23, .if_icmp .gt 1131, 3), (26, .aload_n 0, 1), (27, .iload_n 3, 1), (28, .iaload, 1), (29, .bipush 63, 2), (31, .iand, 1), (32, .tableswitch 1116 0 37 #[168, 191, 214, 237, 270, 293, 316, 340, 353, 366, 420, 443, 466, 489, 512, 535, 558, 591, 644, 667, 681, 694, 707, 740, 753, 766, 799, 822, 855, 878, 911, 934, 967, 1010, 1044, 1067, 1080, 1093], 168), (200, .aload_n 1, 1), (201, .aload_n 0, 1), (202, .iload_n 3, 1), (203, .iconst 1, 1), (204, .iadd, 1), (205, .iaload, 1), (206, .invokevirtual 13, 3), (209, .aload_n 2, 1), (210, .aload_n 0, 1), (211, .iload_n 3, 1), (212, .iconst 1, 1), (213, .iadd, 1), (214, .iaload, 1), (215, .invokevirtual 17, 3), (218, .if_icmp .eq 930, 3), (221, .iconst 0, 1), (222, .ireturn, 1), (223, .aload_n 1, 1)] = true := by decide +kernel
theorem dL_law_0 : decode code 0 = .ok (.new 7, 3) := dq daL_law_0 (i := 0) rfl
theorem dL_law_3 : decode code 3 = .ok (.dup, 1) := dq daL_law_0 (i := 1) rfl
theorem dL_law_4 : decode code 4 = .ok (.invokespecial 9, 3) := dq daL_law_0 (i := 2) rfl
theorem dL_law_7 : decode code 7 = .ok (.astore_n 1, 1) := dq daL_law_0 (i := 3) rfl
theorem dL_law_8 : decode code 8 = .ok (.new 10, 3) := dq daL_law_0 (i := 4) rfl
theorem dL_law_11 : decode code 11 = .ok (.dup, 1) := dq daL_law_0 (i := 5) rfl
theorem dL_law_12 : decode code 12 = .ok (.invokespecial 12, 3) := dq daL_law_0 (i := 6) rfl
theorem dL_law_15 : decode code 15 = .ok (.astore_n 2, 1) := dq daL_law_0 (i := 7) rfl
theorem dL_law_16 : decode code 16 = .ok (.iconst 0, 1) := dq daL_law_0 (i := 8) rfl
theorem dL_law_17 : decode code 17 = .ok (.istore_n 3, 1) := dq daL_law_0 (i := 9) rfl
theorem dL_law_18 : decode code 18 = .ok (.iload_n 3, 1) := dq daL_law_0 (i := 10) rfl
theorem dL_law_19 : decode code 19 = .ok (.aload_n 0, 1) := dq daL_law_0 (i := 11) rfl
theorem dL_law_20 : decode code 20 = .ok (.arraylength, 1) := dq daL_law_0 (i := 12) rfl
theorem dL_law_21 : decode code 21 = .ok (.iconst 5, 1) := dq daL_law_0 (i := 13) rfl
theorem dL_law_22 : decode code 22 = .ok (.isub, 1) := dq daL_law_0 (i := 14) rfl
theorem dL_law_23 : decode code 23 = .ok (.if_icmp .gt 1131, 3) := dq daL_law_0 (i := 15) rfl
theorem dL_law_26 : decode code 26 = .ok (.aload_n 0, 1) := dq daL_law_0 (i := 16) rfl
theorem dL_law_27 : decode code 27 = .ok (.iload_n 3, 1) := dq daL_law_0 (i := 17) rfl
theorem dL_law_28 : decode code 28 = .ok (.iaload, 1) := dq daL_law_0 (i := 18) rfl
theorem dL_law_29 : decode code 29 = .ok (.bipush 63, 2) := dq daL_law_0 (i := 19) rfl
theorem dL_law_31 : decode code 31 = .ok (.iand, 1) := dq daL_law_0 (i := 20) rfl
theorem dL_law_32 : decode code 32 = .ok (.tableswitch 1116 0 37 #[168, 191, 214, 237, 270, 293, 316, 340, 353, 366, 420, 443, 466, 489, 512, 535, 558, 591, 644, 667, 681, 694, 707, 740, 753, 766, 799, 822, 855, 878, 911, 934, 967, 1010, 1044, 1067, 1080, 1093], 168) := dq daL_law_0 (i := 21) rfl
theorem dL_law_200 : decode code 200 = .ok (.aload_n 1, 1) := dq daL_law_0 (i := 22) rfl
theorem dL_law_201 : decode code 201 = .ok (.aload_n 0, 1) := dq daL_law_0 (i := 23) rfl
theorem dL_law_202 : decode code 202 = .ok (.iload_n 3, 1) := dq daL_law_0 (i := 24) rfl
theorem dL_law_203 : decode code 203 = .ok (.iconst 1, 1) := dq daL_law_0 (i := 25) rfl
theorem dL_law_204 : decode code 204 = .ok (.iadd, 1) := dq daL_law_0 (i := 26) rfl
theorem dL_law_205 : decode code 205 = .ok (.iaload, 1) := dq daL_law_0 (i := 27) rfl
theorem dL_law_206 : decode code 206 = .ok (.invokevirtual 13, 3) := dq daL_law_0 (i := 28) rfl
theorem dL_law_209 : decode code 209 = .ok (.aload_n 2, 1) := dq daL_law_0 (i := 29) rfl
theorem dL_law_210 : decode code 210 = .ok (.aload_n 0, 1) := dq daL_law_0 (i := 30) rfl
theorem dL_law_211 : decode code 211 = .ok (.iload_n 3, 1) := dq daL_law_0 (i := 31) rfl
theorem dL_law_212 : decode code 212 = .ok (.iconst 1, 1) := dq daL_law_0 (i := 32) rfl
theorem dL_law_213 : decode code 213 = .ok (.iadd, 1) := dq daL_law_0 (i := 33) rfl
theorem dL_law_214 : decode code 214 = .ok (.iaload, 1) := dq daL_law_0 (i := 34) rfl
theorem dL_law_215 : decode code 215 = .ok (.invokevirtual 17, 3) := dq daL_law_0 (i := 35) rfl
theorem dL_law_218 : decode code 218 = .ok (.if_icmp .eq 930, 3) := dq daL_law_0 (i := 36) rfl
theorem dL_law_221 : decode code 221 = .ok (.iconst 0, 1) := dq daL_law_0 (i := 37) rfl
theorem dL_law_222 : decode code 222 = .ok (.ireturn, 1) := dq daL_law_0 (i := 38) rfl
theorem dL_law_223 : decode code 223 = .ok (.aload_n 1, 1) := dq daL_law_0 (i := 39) rfl
theorem daL_law_40 : dchk code [(224, .aload_n 0, 1), (225, .iload_n 3, 1), (226, .iconst 1, 1), (227, .iadd, 1), (228, .iaload, 1), (229, .invokevirtual 18, 3), (232, .aload_n 2, 1), (233, .aload_n 0, 1), (234, .iload_n 3, 1), (235, .iconst 1, 1), (236, .iadd, 1), (237, .iaload, 1), (238, .invokevirtual 21, 3), (241, .if_icmp .eq 907, 3), (244, .iconst 0, 1), (245, .ireturn, 1), (246, .aload_n 1, 1), (247, .aload_n 0, 1), (248, .iload_n 3, 1), (249, .iconst 1, 1), (250, .iadd, 1), (251, .iaload, 1), (252, .invokevirtual 22, 3), (255, .aload_n 2, 1), (256, .aload_n 0, 1), (257, .iload_n 3, 1), (258, .iconst 1, 1), (259, .iadd, 1), (260, .iaload, 1), (261, .invokevirtual 25, 3), (264, .if_icmp .eq 884, 3), (267, .iconst 0, 1), (268, .ireturn, 1), (269, .aload_n 1, 1), (270, .aload_n 0, 1), (271, .iload_n 3, 1), (272, .iconst 1, 1), (273, .iadd, 1), (274, .iaload, 1), (275, .aload_n 0, 1)] = true := by decide +kernel
theorem dL_law_224 : decode code 224 = .ok (.aload_n 0, 1) := dq daL_law_40 (i := 0) rfl
theorem dL_law_225 : decode code 225 = .ok (.iload_n 3, 1) := dq daL_law_40 (i := 1) rfl
theorem dL_law_226 : decode code 226 = .ok (.iconst 1, 1) := dq daL_law_40 (i := 2) rfl
theorem dL_law_227 : decode code 227 = .ok (.iadd, 1) := dq daL_law_40 (i := 3) rfl
theorem dL_law_228 : decode code 228 = .ok (.iaload, 1) := dq daL_law_40 (i := 4) rfl
theorem dL_law_229 : decode code 229 = .ok (.invokevirtual 18, 3) := dq daL_law_40 (i := 5) rfl
theorem dL_law_232 : decode code 232 = .ok (.aload_n 2, 1) := dq daL_law_40 (i := 6) rfl
theorem dL_law_233 : decode code 233 = .ok (.aload_n 0, 1) := dq daL_law_40 (i := 7) rfl
theorem dL_law_234 : decode code 234 = .ok (.iload_n 3, 1) := dq daL_law_40 (i := 8) rfl
theorem dL_law_235 : decode code 235 = .ok (.iconst 1, 1) := dq daL_law_40 (i := 9) rfl
theorem dL_law_236 : decode code 236 = .ok (.iadd, 1) := dq daL_law_40 (i := 10) rfl
theorem dL_law_237 : decode code 237 = .ok (.iaload, 1) := dq daL_law_40 (i := 11) rfl
theorem dL_law_238 : decode code 238 = .ok (.invokevirtual 21, 3) := dq daL_law_40 (i := 12) rfl
theorem dL_law_241 : decode code 241 = .ok (.if_icmp .eq 907, 3) := dq daL_law_40 (i := 13) rfl
theorem dL_law_244 : decode code 244 = .ok (.iconst 0, 1) := dq daL_law_40 (i := 14) rfl
theorem dL_law_245 : decode code 245 = .ok (.ireturn, 1) := dq daL_law_40 (i := 15) rfl
theorem dL_law_246 : decode code 246 = .ok (.aload_n 1, 1) := dq daL_law_40 (i := 16) rfl
theorem dL_law_247 : decode code 247 = .ok (.aload_n 0, 1) := dq daL_law_40 (i := 17) rfl
theorem dL_law_248 : decode code 248 = .ok (.iload_n 3, 1) := dq daL_law_40 (i := 18) rfl
theorem dL_law_249 : decode code 249 = .ok (.iconst 1, 1) := dq daL_law_40 (i := 19) rfl
theorem dL_law_250 : decode code 250 = .ok (.iadd, 1) := dq daL_law_40 (i := 20) rfl
theorem dL_law_251 : decode code 251 = .ok (.iaload, 1) := dq daL_law_40 (i := 21) rfl
theorem dL_law_252 : decode code 252 = .ok (.invokevirtual 22, 3) := dq daL_law_40 (i := 22) rfl
theorem dL_law_255 : decode code 255 = .ok (.aload_n 2, 1) := dq daL_law_40 (i := 23) rfl
theorem dL_law_256 : decode code 256 = .ok (.aload_n 0, 1) := dq daL_law_40 (i := 24) rfl
theorem dL_law_257 : decode code 257 = .ok (.iload_n 3, 1) := dq daL_law_40 (i := 25) rfl
theorem dL_law_258 : decode code 258 = .ok (.iconst 1, 1) := dq daL_law_40 (i := 26) rfl
theorem dL_law_259 : decode code 259 = .ok (.iadd, 1) := dq daL_law_40 (i := 27) rfl
theorem dL_law_260 : decode code 260 = .ok (.iaload, 1) := dq daL_law_40 (i := 28) rfl
theorem dL_law_261 : decode code 261 = .ok (.invokevirtual 25, 3) := dq daL_law_40 (i := 29) rfl
theorem dL_law_264 : decode code 264 = .ok (.if_icmp .eq 884, 3) := dq daL_law_40 (i := 30) rfl
theorem dL_law_267 : decode code 267 = .ok (.iconst 0, 1) := dq daL_law_40 (i := 31) rfl
theorem dL_law_268 : decode code 268 = .ok (.ireturn, 1) := dq daL_law_40 (i := 32) rfl
theorem dL_law_269 : decode code 269 = .ok (.aload_n 1, 1) := dq daL_law_40 (i := 33) rfl
theorem dL_law_270 : decode code 270 = .ok (.aload_n 0, 1) := dq daL_law_40 (i := 34) rfl
theorem dL_law_271 : decode code 271 = .ok (.iload_n 3, 1) := dq daL_law_40 (i := 35) rfl
theorem dL_law_272 : decode code 272 = .ok (.iconst 1, 1) := dq daL_law_40 (i := 36) rfl
theorem dL_law_273 : decode code 273 = .ok (.iadd, 1) := dq daL_law_40 (i := 37) rfl
theorem dL_law_274 : decode code 274 = .ok (.iaload, 1) := dq daL_law_40 (i := 38) rfl
theorem dL_law_275 : decode code 275 = .ok (.aload_n 0, 1) := dq daL_law_40 (i := 39) rfl
theorem daL_law_80 : dchk code [(276, .iload_n 3, 1), (277, .iconst 2, 1), (278, .iadd, 1), (279, .iaload, 1), (280, .invokevirtual 26, 3), (283, .aload_n 2, 1), (284, .aload_n 0, 1), (285, .iload_n 3, 1), (286, .iconst 1, 1), (287, .iadd, 1), (288, .iaload, 1), (289, .aload_n 0, 1), (290, .iload_n 3, 1), (291, .iconst 2, 1), (292, .iadd, 1), (293, .iaload, 1), (294, .invokevirtual 30, 3), (297, .if_icmp .eq 851, 3), (300, .iconst 0, 1), (301, .ireturn, 1), (302, .aload_n 1, 1), (303, .aload_n 0, 1), (304, .iload_n 3, 1), (305, .iconst 1, 1), (306, .iadd, 1), (307, .iaload, 1), (308, .invokevirtual 31, 3), (311, .aload_n 2, 1), (312, .aload_n 0, 1), (313, .iload_n 3, 1), (314, .iconst 1, 1), (315, .iadd, 1), (316, .iaload, 1), (317, .invokevirtual 34, 3), (320, .if_icmp .eq 828, 3), (323, .iconst 0, 1), (324, .ireturn, 1), (325, .aload_n 1, 1), (326, .aload_n 0, 1), (327, .iload_n 3, 1)] = true := by decide +kernel
theorem dL_law_276 : decode code 276 = .ok (.iload_n 3, 1) := dq daL_law_80 (i := 0) rfl
theorem dL_law_277 : decode code 277 = .ok (.iconst 2, 1) := dq daL_law_80 (i := 1) rfl
theorem dL_law_278 : decode code 278 = .ok (.iadd, 1) := dq daL_law_80 (i := 2) rfl
theorem dL_law_279 : decode code 279 = .ok (.iaload, 1) := dq daL_law_80 (i := 3) rfl
theorem dL_law_280 : decode code 280 = .ok (.invokevirtual 26, 3) := dq daL_law_80 (i := 4) rfl
theorem dL_law_283 : decode code 283 = .ok (.aload_n 2, 1) := dq daL_law_80 (i := 5) rfl
theorem dL_law_284 : decode code 284 = .ok (.aload_n 0, 1) := dq daL_law_80 (i := 6) rfl
theorem dL_law_285 : decode code 285 = .ok (.iload_n 3, 1) := dq daL_law_80 (i := 7) rfl
theorem dL_law_286 : decode code 286 = .ok (.iconst 1, 1) := dq daL_law_80 (i := 8) rfl
theorem dL_law_287 : decode code 287 = .ok (.iadd, 1) := dq daL_law_80 (i := 9) rfl
theorem dL_law_288 : decode code 288 = .ok (.iaload, 1) := dq daL_law_80 (i := 10) rfl
theorem dL_law_289 : decode code 289 = .ok (.aload_n 0, 1) := dq daL_law_80 (i := 11) rfl
theorem dL_law_290 : decode code 290 = .ok (.iload_n 3, 1) := dq daL_law_80 (i := 12) rfl
theorem dL_law_291 : decode code 291 = .ok (.iconst 2, 1) := dq daL_law_80 (i := 13) rfl
theorem dL_law_292 : decode code 292 = .ok (.iadd, 1) := dq daL_law_80 (i := 14) rfl
theorem dL_law_293 : decode code 293 = .ok (.iaload, 1) := dq daL_law_80 (i := 15) rfl
theorem dL_law_294 : decode code 294 = .ok (.invokevirtual 30, 3) := dq daL_law_80 (i := 16) rfl
theorem dL_law_297 : decode code 297 = .ok (.if_icmp .eq 851, 3) := dq daL_law_80 (i := 17) rfl
theorem dL_law_300 : decode code 300 = .ok (.iconst 0, 1) := dq daL_law_80 (i := 18) rfl
theorem dL_law_301 : decode code 301 = .ok (.ireturn, 1) := dq daL_law_80 (i := 19) rfl
theorem dL_law_302 : decode code 302 = .ok (.aload_n 1, 1) := dq daL_law_80 (i := 20) rfl
theorem dL_law_303 : decode code 303 = .ok (.aload_n 0, 1) := dq daL_law_80 (i := 21) rfl
theorem dL_law_304 : decode code 304 = .ok (.iload_n 3, 1) := dq daL_law_80 (i := 22) rfl
theorem dL_law_305 : decode code 305 = .ok (.iconst 1, 1) := dq daL_law_80 (i := 23) rfl
theorem dL_law_306 : decode code 306 = .ok (.iadd, 1) := dq daL_law_80 (i := 24) rfl
theorem dL_law_307 : decode code 307 = .ok (.iaload, 1) := dq daL_law_80 (i := 25) rfl
theorem dL_law_308 : decode code 308 = .ok (.invokevirtual 31, 3) := dq daL_law_80 (i := 26) rfl
theorem dL_law_311 : decode code 311 = .ok (.aload_n 2, 1) := dq daL_law_80 (i := 27) rfl
theorem dL_law_312 : decode code 312 = .ok (.aload_n 0, 1) := dq daL_law_80 (i := 28) rfl
theorem dL_law_313 : decode code 313 = .ok (.iload_n 3, 1) := dq daL_law_80 (i := 29) rfl
theorem dL_law_314 : decode code 314 = .ok (.iconst 1, 1) := dq daL_law_80 (i := 30) rfl
theorem dL_law_315 : decode code 315 = .ok (.iadd, 1) := dq daL_law_80 (i := 31) rfl
theorem dL_law_316 : decode code 316 = .ok (.iaload, 1) := dq daL_law_80 (i := 32) rfl
theorem dL_law_317 : decode code 317 = .ok (.invokevirtual 34, 3) := dq daL_law_80 (i := 33) rfl
theorem dL_law_320 : decode code 320 = .ok (.if_icmp .eq 828, 3) := dq daL_law_80 (i := 34) rfl
theorem dL_law_323 : decode code 323 = .ok (.iconst 0, 1) := dq daL_law_80 (i := 35) rfl
theorem dL_law_324 : decode code 324 = .ok (.ireturn, 1) := dq daL_law_80 (i := 36) rfl
theorem dL_law_325 : decode code 325 = .ok (.aload_n 1, 1) := dq daL_law_80 (i := 37) rfl
theorem dL_law_326 : decode code 326 = .ok (.aload_n 0, 1) := dq daL_law_80 (i := 38) rfl
theorem dL_law_327 : decode code 327 = .ok (.iload_n 3, 1) := dq daL_law_80 (i := 39) rfl
theorem daL_law_120 : dchk code [(328, .iconst 1, 1), (329, .iadd, 1), (330, .iaload, 1), (331, .invokevirtual 35, 3), (334, .aload_n 2, 1), (335, .aload_n 0, 1), (336, .iload_n 3, 1), (337, .iconst 1, 1), (338, .iadd, 1), (339, .iaload, 1), (340, .invokevirtual 38, 3), (343, .if_icmp .eq 805, 3), (346, .iconst 0, 1), (347, .ireturn, 1), (348, .aload_n 1, 1), (349, .aload_n 0, 1), (350, .iload_n 3, 1), (351, .iconst 1, 1), (352, .iadd, 1), (353, .iaload, 1), (354, .invokevirtual 39, 3), (357, .aload_n 2, 1), (358, .aload_n 0, 1), (359, .iload_n 3, 1), (360, .iconst 1, 1), (361, .iadd, 1), (362, .iaload, 1), (363, .invokevirtual 43, 3), (366, .lcmp, 1), (367, .ifCond .eq 781, 3), (370, .iconst 0, 1), (371, .ireturn, 1), (372, .aload_n 1, 1), (373, .invokevirtual 44, 3), (376, .aload_n 2, 1), (377, .invokevirtual 48, 3), (380, .if_icmp .eq 768, 3), (383, .iconst 0, 1), (384, .ireturn, 1), (385, .aload_n 1, 1)] = true := by decide +kernel
theorem dL_law_328 : decode code 328 = .ok (.iconst 1, 1) := dq daL_law_120 (i := 0) rfl
theorem dL_law_329 : decode code 329 = .ok (.iadd, 1) := dq daL_law_120 (i := 1) rfl
theorem dL_law_330 : decode code 330 = .ok (.iaload, 1) := dq daL_law_120 (i := 2) rfl
theorem dL_law_331 : decode code 331 = .ok (.invokevirtual 35, 3) := dq daL_law_120 (i := 3) rfl
theorem dL_law_334 : decode code 334 = .ok (.aload_n 2, 1) := dq daL_law_120 (i := 4) rfl
theorem dL_law_335 : decode code 335 = .ok (.aload_n 0, 1) := dq daL_law_120 (i := 5) rfl
theorem dL_law_336 : decode code 336 = .ok (.iload_n 3, 1) := dq daL_law_120 (i := 6) rfl
theorem dL_law_337 : decode code 337 = .ok (.iconst 1, 1) := dq daL_law_120 (i := 7) rfl
theorem dL_law_338 : decode code 338 = .ok (.iadd, 1) := dq daL_law_120 (i := 8) rfl
theorem dL_law_339 : decode code 339 = .ok (.iaload, 1) := dq daL_law_120 (i := 9) rfl
theorem dL_law_340 : decode code 340 = .ok (.invokevirtual 38, 3) := dq daL_law_120 (i := 10) rfl
theorem dL_law_343 : decode code 343 = .ok (.if_icmp .eq 805, 3) := dq daL_law_120 (i := 11) rfl
theorem dL_law_346 : decode code 346 = .ok (.iconst 0, 1) := dq daL_law_120 (i := 12) rfl
theorem dL_law_347 : decode code 347 = .ok (.ireturn, 1) := dq daL_law_120 (i := 13) rfl
theorem dL_law_348 : decode code 348 = .ok (.aload_n 1, 1) := dq daL_law_120 (i := 14) rfl
theorem dL_law_349 : decode code 349 = .ok (.aload_n 0, 1) := dq daL_law_120 (i := 15) rfl
theorem dL_law_350 : decode code 350 = .ok (.iload_n 3, 1) := dq daL_law_120 (i := 16) rfl
theorem dL_law_351 : decode code 351 = .ok (.iconst 1, 1) := dq daL_law_120 (i := 17) rfl
theorem dL_law_352 : decode code 352 = .ok (.iadd, 1) := dq daL_law_120 (i := 18) rfl
theorem dL_law_353 : decode code 353 = .ok (.iaload, 1) := dq daL_law_120 (i := 19) rfl
theorem dL_law_354 : decode code 354 = .ok (.invokevirtual 39, 3) := dq daL_law_120 (i := 20) rfl
theorem dL_law_357 : decode code 357 = .ok (.aload_n 2, 1) := dq daL_law_120 (i := 21) rfl
theorem dL_law_358 : decode code 358 = .ok (.aload_n 0, 1) := dq daL_law_120 (i := 22) rfl
theorem dL_law_359 : decode code 359 = .ok (.iload_n 3, 1) := dq daL_law_120 (i := 23) rfl
theorem dL_law_360 : decode code 360 = .ok (.iconst 1, 1) := dq daL_law_120 (i := 24) rfl
theorem dL_law_361 : decode code 361 = .ok (.iadd, 1) := dq daL_law_120 (i := 25) rfl
theorem dL_law_362 : decode code 362 = .ok (.iaload, 1) := dq daL_law_120 (i := 26) rfl
theorem dL_law_363 : decode code 363 = .ok (.invokevirtual 43, 3) := dq daL_law_120 (i := 27) rfl
theorem dL_law_366 : decode code 366 = .ok (.lcmp, 1) := dq daL_law_120 (i := 28) rfl
theorem dL_law_367 : decode code 367 = .ok (.ifCond .eq 781, 3) := dq daL_law_120 (i := 29) rfl
theorem dL_law_370 : decode code 370 = .ok (.iconst 0, 1) := dq daL_law_120 (i := 30) rfl
theorem dL_law_371 : decode code 371 = .ok (.ireturn, 1) := dq daL_law_120 (i := 31) rfl
theorem dL_law_372 : decode code 372 = .ok (.aload_n 1, 1) := dq daL_law_120 (i := 32) rfl
theorem dL_law_373 : decode code 373 = .ok (.invokevirtual 44, 3) := dq daL_law_120 (i := 33) rfl
theorem dL_law_376 : decode code 376 = .ok (.aload_n 2, 1) := dq daL_law_120 (i := 34) rfl
theorem dL_law_377 : decode code 377 = .ok (.invokevirtual 48, 3) := dq daL_law_120 (i := 35) rfl
theorem dL_law_380 : decode code 380 = .ok (.if_icmp .eq 768, 3) := dq daL_law_120 (i := 36) rfl
theorem dL_law_383 : decode code 383 = .ok (.iconst 0, 1) := dq daL_law_120 (i := 37) rfl
theorem dL_law_384 : decode code 384 = .ok (.ireturn, 1) := dq daL_law_120 (i := 38) rfl
theorem dL_law_385 : decode code 385 = .ok (.aload_n 1, 1) := dq daL_law_120 (i := 39) rfl
theorem daL_law_160 : dchk code [(386, .invokevirtual 49, 3), (389, .aload_n 2, 1), (390, .invokevirtual 52, 3), (393, .if_icmp .eq 755, 3), (396, .iconst 0, 1), (397, .ireturn, 1), (398, .aload_n 1, 1), (399, .aload_n 0, 1), (400, .iload_n 3, 1), (401, .iconst 1, 1), (402, .iadd, 1), (403, .iaload, 1), (404, .aload_n 0, 1), (405, .iload_n 3, 1), (406, .iconst 2, 1), (407, .iadd, 1), (408, .iaload, 1), (409, .aload_n 0, 1), (410, .iload_n 3, 1), (411, .iconst 3, 1), (412, .iadd, 1), (413, .iaload, 1), (414, .aload_n 0, 1), (415, .iload_n 3, 1), (416, .iconst 4, 1), (417, .iadd, 1), (418, .iaload, 1), (419, .invokevirtual 53, 3), (422, .aload_n 2, 1), (423, .aload_n 0, 1), (424, .iload_n 3, 1), (425, .iconst 1, 1), (426, .iadd, 1), (427, .iaload, 1), (428, .aload_n 0, 1), (429, .iload_n 3, 1), (430, .iconst 2, 1), (431, .iadd, 1), (432, .iaload, 1), (433, .aload_n 0, 1)] = true := by decide +kernel
theorem dL_law_386 : decode code 386 = .ok (.invokevirtual 49, 3) := dq daL_law_160 (i := 0) rfl
theorem dL_law_389 : decode code 389 = .ok (.aload_n 2, 1) := dq daL_law_160 (i := 1) rfl
theorem dL_law_390 : decode code 390 = .ok (.invokevirtual 52, 3) := dq daL_law_160 (i := 2) rfl
theorem dL_law_393 : decode code 393 = .ok (.if_icmp .eq 755, 3) := dq daL_law_160 (i := 3) rfl
theorem dL_law_396 : decode code 396 = .ok (.iconst 0, 1) := dq daL_law_160 (i := 4) rfl
theorem dL_law_397 : decode code 397 = .ok (.ireturn, 1) := dq daL_law_160 (i := 5) rfl
theorem dL_law_398 : decode code 398 = .ok (.aload_n 1, 1) := dq daL_law_160 (i := 6) rfl
theorem dL_law_399 : decode code 399 = .ok (.aload_n 0, 1) := dq daL_law_160 (i := 7) rfl
theorem dL_law_400 : decode code 400 = .ok (.iload_n 3, 1) := dq daL_law_160 (i := 8) rfl
theorem dL_law_401 : decode code 401 = .ok (.iconst 1, 1) := dq daL_law_160 (i := 9) rfl
theorem dL_law_402 : decode code 402 = .ok (.iadd, 1) := dq daL_law_160 (i := 10) rfl
theorem dL_law_403 : decode code 403 = .ok (.iaload, 1) := dq daL_law_160 (i := 11) rfl
theorem dL_law_404 : decode code 404 = .ok (.aload_n 0, 1) := dq daL_law_160 (i := 12) rfl
theorem dL_law_405 : decode code 405 = .ok (.iload_n 3, 1) := dq daL_law_160 (i := 13) rfl
theorem dL_law_406 : decode code 406 = .ok (.iconst 2, 1) := dq daL_law_160 (i := 14) rfl
theorem dL_law_407 : decode code 407 = .ok (.iadd, 1) := dq daL_law_160 (i := 15) rfl
theorem dL_law_408 : decode code 408 = .ok (.iaload, 1) := dq daL_law_160 (i := 16) rfl
theorem dL_law_409 : decode code 409 = .ok (.aload_n 0, 1) := dq daL_law_160 (i := 17) rfl
theorem dL_law_410 : decode code 410 = .ok (.iload_n 3, 1) := dq daL_law_160 (i := 18) rfl
theorem dL_law_411 : decode code 411 = .ok (.iconst 3, 1) := dq daL_law_160 (i := 19) rfl
theorem dL_law_412 : decode code 412 = .ok (.iadd, 1) := dq daL_law_160 (i := 20) rfl
theorem dL_law_413 : decode code 413 = .ok (.iaload, 1) := dq daL_law_160 (i := 21) rfl
theorem dL_law_414 : decode code 414 = .ok (.aload_n 0, 1) := dq daL_law_160 (i := 22) rfl
theorem dL_law_415 : decode code 415 = .ok (.iload_n 3, 1) := dq daL_law_160 (i := 23) rfl
theorem dL_law_416 : decode code 416 = .ok (.iconst 4, 1) := dq daL_law_160 (i := 24) rfl
theorem dL_law_417 : decode code 417 = .ok (.iadd, 1) := dq daL_law_160 (i := 25) rfl
theorem dL_law_418 : decode code 418 = .ok (.iaload, 1) := dq daL_law_160 (i := 26) rfl
theorem dL_law_419 : decode code 419 = .ok (.invokevirtual 53, 3) := dq daL_law_160 (i := 27) rfl
theorem dL_law_422 : decode code 422 = .ok (.aload_n 2, 1) := dq daL_law_160 (i := 28) rfl
theorem dL_law_423 : decode code 423 = .ok (.aload_n 0, 1) := dq daL_law_160 (i := 29) rfl
theorem dL_law_424 : decode code 424 = .ok (.iload_n 3, 1) := dq daL_law_160 (i := 30) rfl
theorem dL_law_425 : decode code 425 = .ok (.iconst 1, 1) := dq daL_law_160 (i := 31) rfl
theorem dL_law_426 : decode code 426 = .ok (.iadd, 1) := dq daL_law_160 (i := 32) rfl
theorem dL_law_427 : decode code 427 = .ok (.iaload, 1) := dq daL_law_160 (i := 33) rfl
theorem dL_law_428 : decode code 428 = .ok (.aload_n 0, 1) := dq daL_law_160 (i := 34) rfl
theorem dL_law_429 : decode code 429 = .ok (.iload_n 3, 1) := dq daL_law_160 (i := 35) rfl
theorem dL_law_430 : decode code 430 = .ok (.iconst 2, 1) := dq daL_law_160 (i := 36) rfl
theorem dL_law_431 : decode code 431 = .ok (.iadd, 1) := dq daL_law_160 (i := 37) rfl
theorem dL_law_432 : decode code 432 = .ok (.iaload, 1) := dq daL_law_160 (i := 38) rfl
theorem dL_law_433 : decode code 433 = .ok (.aload_n 0, 1) := dq daL_law_160 (i := 39) rfl
theorem daL_law_200 : dchk code [(434, .iload_n 3, 1), (435, .iconst 3, 1), (436, .iadd, 1), (437, .iaload, 1), (438, .aload_n 0, 1), (439, .iload_n 3, 1), (440, .iconst 4, 1), (441, .iadd, 1), (442, .iaload, 1), (443, .invokevirtual 57, 3), (446, .lcmp, 1), (447, .ifCond .eq 701, 3), (450, .iconst 0, 1), (451, .ireturn, 1), (452, .aload_n 1, 1), (453, .aload_n 0, 1), (454, .iload_n 3, 1), (455, .iconst 1, 1), (456, .iadd, 1), (457, .iaload, 1), (458, .invokevirtual 58, 3), (461, .aload_n 2, 1), (462, .aload_n 0, 1), (463, .iload_n 3, 1), (464, .iconst 1, 1), (465, .iadd, 1), (466, .iaload, 1), (467, .invokevirtual 61, 3), (470, .if_icmp .eq 678, 3), (473, .iconst 0, 1), (474, .ireturn, 1), (475, .aload_n 1, 1), (476, .aload_n 0, 1), (477, .iload_n 3, 1), (478, .iconst 1, 1), (479, .iadd, 1), (480, .iaload, 1), (481, .invokevirtual 62, 3), (484, .aload_n 2, 1), (485, .aload_n 0, 1)] = true := by decide +kernel
theorem dL_law_434 : decode code 434 = .ok (.iload_n 3, 1) := dq daL_law_200 (i := 0) rfl
theorem dL_law_435 : decode code 435 = .ok (.iconst 3, 1) := dq daL_law_200 (i := 1) rfl
theorem dL_law_436 : decode code 436 = .ok (.iadd, 1) := dq daL_law_200 (i := 2) rfl
theorem dL_law_437 : decode code 437 = .ok (.iaload, 1) := dq daL_law_200 (i := 3) rfl
theorem dL_law_438 : decode code 438 = .ok (.aload_n 0, 1) := dq daL_law_200 (i := 4) rfl
theorem dL_law_439 : decode code 439 = .ok (.iload_n 3, 1) := dq daL_law_200 (i := 5) rfl
theorem dL_law_440 : decode code 440 = .ok (.iconst 4, 1) := dq daL_law_200 (i := 6) rfl
theorem dL_law_441 : decode code 441 = .ok (.iadd, 1) := dq daL_law_200 (i := 7) rfl
theorem dL_law_442 : decode code 442 = .ok (.iaload, 1) := dq daL_law_200 (i := 8) rfl
theorem dL_law_443 : decode code 443 = .ok (.invokevirtual 57, 3) := dq daL_law_200 (i := 9) rfl
theorem dL_law_446 : decode code 446 = .ok (.lcmp, 1) := dq daL_law_200 (i := 10) rfl
theorem dL_law_447 : decode code 447 = .ok (.ifCond .eq 701, 3) := dq daL_law_200 (i := 11) rfl
theorem dL_law_450 : decode code 450 = .ok (.iconst 0, 1) := dq daL_law_200 (i := 12) rfl
theorem dL_law_451 : decode code 451 = .ok (.ireturn, 1) := dq daL_law_200 (i := 13) rfl
theorem dL_law_452 : decode code 452 = .ok (.aload_n 1, 1) := dq daL_law_200 (i := 14) rfl
theorem dL_law_453 : decode code 453 = .ok (.aload_n 0, 1) := dq daL_law_200 (i := 15) rfl
theorem dL_law_454 : decode code 454 = .ok (.iload_n 3, 1) := dq daL_law_200 (i := 16) rfl
theorem dL_law_455 : decode code 455 = .ok (.iconst 1, 1) := dq daL_law_200 (i := 17) rfl
theorem dL_law_456 : decode code 456 = .ok (.iadd, 1) := dq daL_law_200 (i := 18) rfl
theorem dL_law_457 : decode code 457 = .ok (.iaload, 1) := dq daL_law_200 (i := 19) rfl
theorem dL_law_458 : decode code 458 = .ok (.invokevirtual 58, 3) := dq daL_law_200 (i := 20) rfl
theorem dL_law_461 : decode code 461 = .ok (.aload_n 2, 1) := dq daL_law_200 (i := 21) rfl
theorem dL_law_462 : decode code 462 = .ok (.aload_n 0, 1) := dq daL_law_200 (i := 22) rfl
theorem dL_law_463 : decode code 463 = .ok (.iload_n 3, 1) := dq daL_law_200 (i := 23) rfl
theorem dL_law_464 : decode code 464 = .ok (.iconst 1, 1) := dq daL_law_200 (i := 24) rfl
theorem dL_law_465 : decode code 465 = .ok (.iadd, 1) := dq daL_law_200 (i := 25) rfl
theorem dL_law_466 : decode code 466 = .ok (.iaload, 1) := dq daL_law_200 (i := 26) rfl
theorem dL_law_467 : decode code 467 = .ok (.invokevirtual 61, 3) := dq daL_law_200 (i := 27) rfl
theorem dL_law_470 : decode code 470 = .ok (.if_icmp .eq 678, 3) := dq daL_law_200 (i := 28) rfl
theorem dL_law_473 : decode code 473 = .ok (.iconst 0, 1) := dq daL_law_200 (i := 29) rfl
theorem dL_law_474 : decode code 474 = .ok (.ireturn, 1) := dq daL_law_200 (i := 30) rfl
theorem dL_law_475 : decode code 475 = .ok (.aload_n 1, 1) := dq daL_law_200 (i := 31) rfl
theorem dL_law_476 : decode code 476 = .ok (.aload_n 0, 1) := dq daL_law_200 (i := 32) rfl
theorem dL_law_477 : decode code 477 = .ok (.iload_n 3, 1) := dq daL_law_200 (i := 33) rfl
theorem dL_law_478 : decode code 478 = .ok (.iconst 1, 1) := dq daL_law_200 (i := 34) rfl
theorem dL_law_479 : decode code 479 = .ok (.iadd, 1) := dq daL_law_200 (i := 35) rfl
theorem dL_law_480 : decode code 480 = .ok (.iaload, 1) := dq daL_law_200 (i := 36) rfl
theorem dL_law_481 : decode code 481 = .ok (.invokevirtual 62, 3) := dq daL_law_200 (i := 37) rfl
theorem dL_law_484 : decode code 484 = .ok (.aload_n 2, 1) := dq daL_law_200 (i := 38) rfl
theorem dL_law_485 : decode code 485 = .ok (.aload_n 0, 1) := dq daL_law_200 (i := 39) rfl
theorem daL_law_240 : dchk code [(486, .iload_n 3, 1), (487, .iconst 1, 1), (488, .iadd, 1), (489, .iaload, 1), (490, .invokevirtual 65, 3), (493, .if_icmp .eq 655, 3), (496, .iconst 0, 1), (497, .ireturn, 1), (498, .aload_n 1, 1), (499, .aload_n 0, 1), (500, .iload_n 3, 1), (501, .iconst 1, 1), (502, .iadd, 1), (503, .iaload, 1), (504, .invokevirtual 66, 3), (507, .aload_n 2, 1), (508, .aload_n 0, 1), (509, .iload_n 3, 1), (510, .iconst 1, 1), (511, .iadd, 1), (512, .iaload, 1), (513, .invokevirtual 69, 3), (516, .if_icmp .eq 632, 3), (519, .iconst 0, 1), (520, .ireturn, 1), (521, .aload_n 1, 1), (522, .aload_n 0, 1), (523, .iload_n 3, 1), (524, .iconst 1, 1), (525, .iadd, 1), (526, .iaload, 1), (527, .invokevirtual 70, 3), (530, .aload_n 2, 1), (531, .aload_n 0, 1), (532, .iload_n 3, 1), (533, .iconst 1, 1), (534, .iadd, 1), (535, .iaload, 1), (536, .invokevirtual 73, 3), (539, .if_icmp .eq 609, 3)] = true := by decide +kernel
theorem dL_law_486 : decode code 486 = .ok (.iload_n 3, 1) := dq daL_law_240 (i := 0) rfl
theorem dL_law_487 : decode code 487 = .ok (.iconst 1, 1) := dq daL_law_240 (i := 1) rfl
theorem dL_law_488 : decode code 488 = .ok (.iadd, 1) := dq daL_law_240 (i := 2) rfl
theorem dL_law_489 : decode code 489 = .ok (.iaload, 1) := dq daL_law_240 (i := 3) rfl
theorem dL_law_490 : decode code 490 = .ok (.invokevirtual 65, 3) := dq daL_law_240 (i := 4) rfl
theorem dL_law_493 : decode code 493 = .ok (.if_icmp .eq 655, 3) := dq daL_law_240 (i := 5) rfl
theorem dL_law_496 : decode code 496 = .ok (.iconst 0, 1) := dq daL_law_240 (i := 6) rfl
theorem dL_law_497 : decode code 497 = .ok (.ireturn, 1) := dq daL_law_240 (i := 7) rfl
theorem dL_law_498 : decode code 498 = .ok (.aload_n 1, 1) := dq daL_law_240 (i := 8) rfl
theorem dL_law_499 : decode code 499 = .ok (.aload_n 0, 1) := dq daL_law_240 (i := 9) rfl
theorem dL_law_500 : decode code 500 = .ok (.iload_n 3, 1) := dq daL_law_240 (i := 10) rfl
theorem dL_law_501 : decode code 501 = .ok (.iconst 1, 1) := dq daL_law_240 (i := 11) rfl
theorem dL_law_502 : decode code 502 = .ok (.iadd, 1) := dq daL_law_240 (i := 12) rfl
theorem dL_law_503 : decode code 503 = .ok (.iaload, 1) := dq daL_law_240 (i := 13) rfl
theorem dL_law_504 : decode code 504 = .ok (.invokevirtual 66, 3) := dq daL_law_240 (i := 14) rfl
theorem dL_law_507 : decode code 507 = .ok (.aload_n 2, 1) := dq daL_law_240 (i := 15) rfl
theorem dL_law_508 : decode code 508 = .ok (.aload_n 0, 1) := dq daL_law_240 (i := 16) rfl
theorem dL_law_509 : decode code 509 = .ok (.iload_n 3, 1) := dq daL_law_240 (i := 17) rfl
theorem dL_law_510 : decode code 510 = .ok (.iconst 1, 1) := dq daL_law_240 (i := 18) rfl
theorem dL_law_511 : decode code 511 = .ok (.iadd, 1) := dq daL_law_240 (i := 19) rfl
theorem dL_law_512 : decode code 512 = .ok (.iaload, 1) := dq daL_law_240 (i := 20) rfl
theorem dL_law_513 : decode code 513 = .ok (.invokevirtual 69, 3) := dq daL_law_240 (i := 21) rfl
theorem dL_law_516 : decode code 516 = .ok (.if_icmp .eq 632, 3) := dq daL_law_240 (i := 22) rfl
theorem dL_law_519 : decode code 519 = .ok (.iconst 0, 1) := dq daL_law_240 (i := 23) rfl
theorem dL_law_520 : decode code 520 = .ok (.ireturn, 1) := dq daL_law_240 (i := 24) rfl
theorem dL_law_521 : decode code 521 = .ok (.aload_n 1, 1) := dq daL_law_240 (i := 25) rfl
theorem dL_law_522 : decode code 522 = .ok (.aload_n 0, 1) := dq daL_law_240 (i := 26) rfl
theorem dL_law_523 : decode code 523 = .ok (.iload_n 3, 1) := dq daL_law_240 (i := 27) rfl
theorem dL_law_524 : decode code 524 = .ok (.iconst 1, 1) := dq daL_law_240 (i := 28) rfl
theorem dL_law_525 : decode code 525 = .ok (.iadd, 1) := dq daL_law_240 (i := 29) rfl
theorem dL_law_526 : decode code 526 = .ok (.iaload, 1) := dq daL_law_240 (i := 30) rfl
theorem dL_law_527 : decode code 527 = .ok (.invokevirtual 70, 3) := dq daL_law_240 (i := 31) rfl
theorem dL_law_530 : decode code 530 = .ok (.aload_n 2, 1) := dq daL_law_240 (i := 32) rfl
theorem dL_law_531 : decode code 531 = .ok (.aload_n 0, 1) := dq daL_law_240 (i := 33) rfl
theorem dL_law_532 : decode code 532 = .ok (.iload_n 3, 1) := dq daL_law_240 (i := 34) rfl
theorem dL_law_533 : decode code 533 = .ok (.iconst 1, 1) := dq daL_law_240 (i := 35) rfl
theorem dL_law_534 : decode code 534 = .ok (.iadd, 1) := dq daL_law_240 (i := 36) rfl
theorem dL_law_535 : decode code 535 = .ok (.iaload, 1) := dq daL_law_240 (i := 37) rfl
theorem dL_law_536 : decode code 536 = .ok (.invokevirtual 73, 3) := dq daL_law_240 (i := 38) rfl
theorem dL_law_539 : decode code 539 = .ok (.if_icmp .eq 609, 3) := dq daL_law_240 (i := 39) rfl
theorem daL_law_280 : dchk code [(542, .iconst 0, 1), (543, .ireturn, 1), (544, .aload_n 1, 1), (545, .aload_n 0, 1), (546, .iload_n 3, 1), (547, .iconst 1, 1), (548, .iadd, 1), (549, .iaload, 1), (550, .invokevirtual 74, 3), (553, .aload_n 2, 1), (554, .aload_n 0, 1), (555, .iload_n 3, 1), (556, .iconst 1, 1), (557, .iadd, 1), (558, .iaload, 1), (559, .invokevirtual 77, 3), (562, .if_icmp .eq 586, 3), (565, .iconst 0, 1), (566, .ireturn, 1), (567, .aload_n 1, 1), (568, .aload_n 0, 1), (569, .iload_n 3, 1), (570, .iconst 1, 1), (571, .iadd, 1), (572, .iaload, 1), (573, .invokevirtual 78, 3), (576, .aload_n 2, 1), (577, .aload_n 0, 1), (578, .iload_n 3, 1), (579, .iconst 1, 1), (580, .iadd, 1), (581, .iaload, 1), (582, .invokevirtual 81, 3), (585, .if_icmp .eq 563, 3), (588, .iconst 0, 1), (589, .ireturn, 1), (590, .aload_n 1, 1), (591, .aload_n 0, 1), (592, .iload_n 3, 1), (593, .iconst 1, 1)] = true := by decide +kernel
theorem dL_law_542 : decode code 542 = .ok (.iconst 0, 1) := dq daL_law_280 (i := 0) rfl
theorem dL_law_543 : decode code 543 = .ok (.ireturn, 1) := dq daL_law_280 (i := 1) rfl
theorem dL_law_544 : decode code 544 = .ok (.aload_n 1, 1) := dq daL_law_280 (i := 2) rfl
theorem dL_law_545 : decode code 545 = .ok (.aload_n 0, 1) := dq daL_law_280 (i := 3) rfl
theorem dL_law_546 : decode code 546 = .ok (.iload_n 3, 1) := dq daL_law_280 (i := 4) rfl
theorem dL_law_547 : decode code 547 = .ok (.iconst 1, 1) := dq daL_law_280 (i := 5) rfl
theorem dL_law_548 : decode code 548 = .ok (.iadd, 1) := dq daL_law_280 (i := 6) rfl
theorem dL_law_549 : decode code 549 = .ok (.iaload, 1) := dq daL_law_280 (i := 7) rfl
theorem dL_law_550 : decode code 550 = .ok (.invokevirtual 74, 3) := dq daL_law_280 (i := 8) rfl
theorem dL_law_553 : decode code 553 = .ok (.aload_n 2, 1) := dq daL_law_280 (i := 9) rfl
theorem dL_law_554 : decode code 554 = .ok (.aload_n 0, 1) := dq daL_law_280 (i := 10) rfl
theorem dL_law_555 : decode code 555 = .ok (.iload_n 3, 1) := dq daL_law_280 (i := 11) rfl
theorem dL_law_556 : decode code 556 = .ok (.iconst 1, 1) := dq daL_law_280 (i := 12) rfl
theorem dL_law_557 : decode code 557 = .ok (.iadd, 1) := dq daL_law_280 (i := 13) rfl
theorem dL_law_558 : decode code 558 = .ok (.iaload, 1) := dq daL_law_280 (i := 14) rfl
theorem dL_law_559 : decode code 559 = .ok (.invokevirtual 77, 3) := dq daL_law_280 (i := 15) rfl
theorem dL_law_562 : decode code 562 = .ok (.if_icmp .eq 586, 3) := dq daL_law_280 (i := 16) rfl
theorem dL_law_565 : decode code 565 = .ok (.iconst 0, 1) := dq daL_law_280 (i := 17) rfl
theorem dL_law_566 : decode code 566 = .ok (.ireturn, 1) := dq daL_law_280 (i := 18) rfl
theorem dL_law_567 : decode code 567 = .ok (.aload_n 1, 1) := dq daL_law_280 (i := 19) rfl
theorem dL_law_568 : decode code 568 = .ok (.aload_n 0, 1) := dq daL_law_280 (i := 20) rfl
theorem dL_law_569 : decode code 569 = .ok (.iload_n 3, 1) := dq daL_law_280 (i := 21) rfl
theorem dL_law_570 : decode code 570 = .ok (.iconst 1, 1) := dq daL_law_280 (i := 22) rfl
theorem dL_law_571 : decode code 571 = .ok (.iadd, 1) := dq daL_law_280 (i := 23) rfl
theorem dL_law_572 : decode code 572 = .ok (.iaload, 1) := dq daL_law_280 (i := 24) rfl
theorem dL_law_573 : decode code 573 = .ok (.invokevirtual 78, 3) := dq daL_law_280 (i := 25) rfl
theorem dL_law_576 : decode code 576 = .ok (.aload_n 2, 1) := dq daL_law_280 (i := 26) rfl
theorem dL_law_577 : decode code 577 = .ok (.aload_n 0, 1) := dq daL_law_280 (i := 27) rfl
theorem dL_law_578 : decode code 578 = .ok (.iload_n 3, 1) := dq daL_law_280 (i := 28) rfl
theorem dL_law_579 : decode code 579 = .ok (.iconst 1, 1) := dq daL_law_280 (i := 29) rfl
theorem dL_law_580 : decode code 580 = .ok (.iadd, 1) := dq daL_law_280 (i := 30) rfl
theorem dL_law_581 : decode code 581 = .ok (.iaload, 1) := dq daL_law_280 (i := 31) rfl
theorem dL_law_582 : decode code 582 = .ok (.invokevirtual 81, 3) := dq daL_law_280 (i := 32) rfl
theorem dL_law_585 : decode code 585 = .ok (.if_icmp .eq 563, 3) := dq daL_law_280 (i := 33) rfl
theorem dL_law_588 : decode code 588 = .ok (.iconst 0, 1) := dq daL_law_280 (i := 34) rfl
theorem dL_law_589 : decode code 589 = .ok (.ireturn, 1) := dq daL_law_280 (i := 35) rfl
theorem dL_law_590 : decode code 590 = .ok (.aload_n 1, 1) := dq daL_law_280 (i := 36) rfl
theorem dL_law_591 : decode code 591 = .ok (.aload_n 0, 1) := dq daL_law_280 (i := 37) rfl
theorem dL_law_592 : decode code 592 = .ok (.iload_n 3, 1) := dq daL_law_280 (i := 38) rfl
theorem dL_law_593 : decode code 593 = .ok (.iconst 1, 1) := dq daL_law_280 (i := 39) rfl
theorem daL_law_320 : dchk code [(594, .iadd, 1), (595, .iaload, 1), (596, .aload_n 0, 1), (597, .iload_n 3, 1), (598, .iconst 2, 1), (599, .iadd, 1), (600, .iaload, 1), (601, .invokevirtual 82, 3), (604, .aload_n 2, 1), (605, .aload_n 0, 1), (606, .iload_n 3, 1), (607, .iconst 1, 1), (608, .iadd, 1), (609, .iaload, 1), (610, .aload_n 0, 1), (611, .iload_n 3, 1), (612, .iconst 2, 1), (613, .iadd, 1), (614, .iaload, 1), (615, .invokevirtual 85, 3), (618, .if_icmp .eq 530, 3), (621, .iconst 0, 1), (622, .ireturn, 1), (623, .aload_n 1, 1), (624, .aload_n 0, 1), (625, .iload_n 3, 1), (626, .iconst 1, 1), (627, .iadd, 1), (628, .iaload, 1), (629, .aload_n 0, 1), (630, .iload_n 3, 1), (631, .iconst 2, 1), (632, .iadd, 1), (633, .iaload, 1), (634, .aload_n 0, 1), (635, .iload_n 3, 1), (636, .iconst 3, 1), (637, .iadd, 1), (638, .iaload, 1), (639, .aload_n 0, 1)] = true := by decide +kernel
theorem dL_law_594 : decode code 594 = .ok (.iadd, 1) := dq daL_law_320 (i := 0) rfl
theorem dL_law_595 : decode code 595 = .ok (.iaload, 1) := dq daL_law_320 (i := 1) rfl
theorem dL_law_596 : decode code 596 = .ok (.aload_n 0, 1) := dq daL_law_320 (i := 2) rfl
theorem dL_law_597 : decode code 597 = .ok (.iload_n 3, 1) := dq daL_law_320 (i := 3) rfl
theorem dL_law_598 : decode code 598 = .ok (.iconst 2, 1) := dq daL_law_320 (i := 4) rfl
theorem dL_law_599 : decode code 599 = .ok (.iadd, 1) := dq daL_law_320 (i := 5) rfl
theorem dL_law_600 : decode code 600 = .ok (.iaload, 1) := dq daL_law_320 (i := 6) rfl
theorem dL_law_601 : decode code 601 = .ok (.invokevirtual 82, 3) := dq daL_law_320 (i := 7) rfl
theorem dL_law_604 : decode code 604 = .ok (.aload_n 2, 1) := dq daL_law_320 (i := 8) rfl
theorem dL_law_605 : decode code 605 = .ok (.aload_n 0, 1) := dq daL_law_320 (i := 9) rfl
theorem dL_law_606 : decode code 606 = .ok (.iload_n 3, 1) := dq daL_law_320 (i := 10) rfl
theorem dL_law_607 : decode code 607 = .ok (.iconst 1, 1) := dq daL_law_320 (i := 11) rfl
theorem dL_law_608 : decode code 608 = .ok (.iadd, 1) := dq daL_law_320 (i := 12) rfl
theorem dL_law_609 : decode code 609 = .ok (.iaload, 1) := dq daL_law_320 (i := 13) rfl
theorem dL_law_610 : decode code 610 = .ok (.aload_n 0, 1) := dq daL_law_320 (i := 14) rfl
theorem dL_law_611 : decode code 611 = .ok (.iload_n 3, 1) := dq daL_law_320 (i := 15) rfl
theorem dL_law_612 : decode code 612 = .ok (.iconst 2, 1) := dq daL_law_320 (i := 16) rfl
theorem dL_law_613 : decode code 613 = .ok (.iadd, 1) := dq daL_law_320 (i := 17) rfl
theorem dL_law_614 : decode code 614 = .ok (.iaload, 1) := dq daL_law_320 (i := 18) rfl
theorem dL_law_615 : decode code 615 = .ok (.invokevirtual 85, 3) := dq daL_law_320 (i := 19) rfl
theorem dL_law_618 : decode code 618 = .ok (.if_icmp .eq 530, 3) := dq daL_law_320 (i := 20) rfl
theorem dL_law_621 : decode code 621 = .ok (.iconst 0, 1) := dq daL_law_320 (i := 21) rfl
theorem dL_law_622 : decode code 622 = .ok (.ireturn, 1) := dq daL_law_320 (i := 22) rfl
theorem dL_law_623 : decode code 623 = .ok (.aload_n 1, 1) := dq daL_law_320 (i := 23) rfl
theorem dL_law_624 : decode code 624 = .ok (.aload_n 0, 1) := dq daL_law_320 (i := 24) rfl
theorem dL_law_625 : decode code 625 = .ok (.iload_n 3, 1) := dq daL_law_320 (i := 25) rfl
theorem dL_law_626 : decode code 626 = .ok (.iconst 1, 1) := dq daL_law_320 (i := 26) rfl
theorem dL_law_627 : decode code 627 = .ok (.iadd, 1) := dq daL_law_320 (i := 27) rfl
theorem dL_law_628 : decode code 628 = .ok (.iaload, 1) := dq daL_law_320 (i := 28) rfl
theorem dL_law_629 : decode code 629 = .ok (.aload_n 0, 1) := dq daL_law_320 (i := 29) rfl
theorem dL_law_630 : decode code 630 = .ok (.iload_n 3, 1) := dq daL_law_320 (i := 30) rfl
theorem dL_law_631 : decode code 631 = .ok (.iconst 2, 1) := dq daL_law_320 (i := 31) rfl
theorem dL_law_632 : decode code 632 = .ok (.iadd, 1) := dq daL_law_320 (i := 32) rfl
theorem dL_law_633 : decode code 633 = .ok (.iaload, 1) := dq daL_law_320 (i := 33) rfl
theorem dL_law_634 : decode code 634 = .ok (.aload_n 0, 1) := dq daL_law_320 (i := 34) rfl
theorem dL_law_635 : decode code 635 = .ok (.iload_n 3, 1) := dq daL_law_320 (i := 35) rfl
theorem dL_law_636 : decode code 636 = .ok (.iconst 3, 1) := dq daL_law_320 (i := 36) rfl
theorem dL_law_637 : decode code 637 = .ok (.iadd, 1) := dq daL_law_320 (i := 37) rfl
theorem dL_law_638 : decode code 638 = .ok (.iaload, 1) := dq daL_law_320 (i := 38) rfl
theorem dL_law_639 : decode code 639 = .ok (.aload_n 0, 1) := dq daL_law_320 (i := 39) rfl
theorem daL_law_360 : dchk code [(640, .iload_n 3, 1), (641, .iconst 4, 1), (642, .iadd, 1), (643, .iaload, 1), (644, .invokevirtual 86, 3), (647, .aload_n 2, 1), (648, .aload_n 0, 1), (649, .iload_n 3, 1), (650, .iconst 1, 1), (651, .iadd, 1), (652, .iaload, 1), (653, .aload_n 0, 1), (654, .iload_n 3, 1), (655, .iconst 2, 1), (656, .iadd, 1), (657, .iaload, 1), (658, .aload_n 0, 1), (659, .iload_n 3, 1), (660, .iconst 3, 1), (661, .iadd, 1), (662, .iaload, 1), (663, .aload_n 0, 1), (664, .iload_n 3, 1), (665, .iconst 4, 1), (666, .iadd, 1), (667, .iaload, 1), (668, .invokevirtual 90, 3), (671, .if_icmp .eq 477, 3), (674, .iconst 0, 1), (675, .ireturn, 1), (676, .aload_n 1, 1), (677, .aload_n 0, 1), (678, .iload_n 3, 1), (679, .iconst 1, 1), (680, .iadd, 1), (681, .iaload, 1), (682, .invokevirtual 91, 3), (685, .aload_n 2, 1), (686, .aload_n 0, 1), (687, .iload_n 3, 1)] = true := by decide +kernel
theorem dL_law_640 : decode code 640 = .ok (.iload_n 3, 1) := dq daL_law_360 (i := 0) rfl
theorem dL_law_641 : decode code 641 = .ok (.iconst 4, 1) := dq daL_law_360 (i := 1) rfl
theorem dL_law_642 : decode code 642 = .ok (.iadd, 1) := dq daL_law_360 (i := 2) rfl
theorem dL_law_643 : decode code 643 = .ok (.iaload, 1) := dq daL_law_360 (i := 3) rfl
theorem dL_law_644 : decode code 644 = .ok (.invokevirtual 86, 3) := dq daL_law_360 (i := 4) rfl
theorem dL_law_647 : decode code 647 = .ok (.aload_n 2, 1) := dq daL_law_360 (i := 5) rfl
theorem dL_law_648 : decode code 648 = .ok (.aload_n 0, 1) := dq daL_law_360 (i := 6) rfl
theorem dL_law_649 : decode code 649 = .ok (.iload_n 3, 1) := dq daL_law_360 (i := 7) rfl
theorem dL_law_650 : decode code 650 = .ok (.iconst 1, 1) := dq daL_law_360 (i := 8) rfl
theorem dL_law_651 : decode code 651 = .ok (.iadd, 1) := dq daL_law_360 (i := 9) rfl
theorem dL_law_652 : decode code 652 = .ok (.iaload, 1) := dq daL_law_360 (i := 10) rfl
theorem dL_law_653 : decode code 653 = .ok (.aload_n 0, 1) := dq daL_law_360 (i := 11) rfl
theorem dL_law_654 : decode code 654 = .ok (.iload_n 3, 1) := dq daL_law_360 (i := 12) rfl
theorem dL_law_655 : decode code 655 = .ok (.iconst 2, 1) := dq daL_law_360 (i := 13) rfl
theorem dL_law_656 : decode code 656 = .ok (.iadd, 1) := dq daL_law_360 (i := 14) rfl
theorem dL_law_657 : decode code 657 = .ok (.iaload, 1) := dq daL_law_360 (i := 15) rfl
theorem dL_law_658 : decode code 658 = .ok (.aload_n 0, 1) := dq daL_law_360 (i := 16) rfl
theorem dL_law_659 : decode code 659 = .ok (.iload_n 3, 1) := dq daL_law_360 (i := 17) rfl
theorem dL_law_660 : decode code 660 = .ok (.iconst 3, 1) := dq daL_law_360 (i := 18) rfl
theorem dL_law_661 : decode code 661 = .ok (.iadd, 1) := dq daL_law_360 (i := 19) rfl
theorem dL_law_662 : decode code 662 = .ok (.iaload, 1) := dq daL_law_360 (i := 20) rfl
theorem dL_law_663 : decode code 663 = .ok (.aload_n 0, 1) := dq daL_law_360 (i := 21) rfl
theorem dL_law_664 : decode code 664 = .ok (.iload_n 3, 1) := dq daL_law_360 (i := 22) rfl
theorem dL_law_665 : decode code 665 = .ok (.iconst 4, 1) := dq daL_law_360 (i := 23) rfl
theorem dL_law_666 : decode code 666 = .ok (.iadd, 1) := dq daL_law_360 (i := 24) rfl
theorem dL_law_667 : decode code 667 = .ok (.iaload, 1) := dq daL_law_360 (i := 25) rfl
theorem dL_law_668 : decode code 668 = .ok (.invokevirtual 90, 3) := dq daL_law_360 (i := 26) rfl
theorem dL_law_671 : decode code 671 = .ok (.if_icmp .eq 477, 3) := dq daL_law_360 (i := 27) rfl
theorem dL_law_674 : decode code 674 = .ok (.iconst 0, 1) := dq daL_law_360 (i := 28) rfl
theorem dL_law_675 : decode code 675 = .ok (.ireturn, 1) := dq daL_law_360 (i := 29) rfl
theorem dL_law_676 : decode code 676 = .ok (.aload_n 1, 1) := dq daL_law_360 (i := 30) rfl
theorem dL_law_677 : decode code 677 = .ok (.aload_n 0, 1) := dq daL_law_360 (i := 31) rfl
theorem dL_law_678 : decode code 678 = .ok (.iload_n 3, 1) := dq daL_law_360 (i := 32) rfl
theorem dL_law_679 : decode code 679 = .ok (.iconst 1, 1) := dq daL_law_360 (i := 33) rfl
theorem dL_law_680 : decode code 680 = .ok (.iadd, 1) := dq daL_law_360 (i := 34) rfl
theorem dL_law_681 : decode code 681 = .ok (.iaload, 1) := dq daL_law_360 (i := 35) rfl
theorem dL_law_682 : decode code 682 = .ok (.invokevirtual 91, 3) := dq daL_law_360 (i := 36) rfl
theorem dL_law_685 : decode code 685 = .ok (.aload_n 2, 1) := dq daL_law_360 (i := 37) rfl
theorem dL_law_686 : decode code 686 = .ok (.aload_n 0, 1) := dq daL_law_360 (i := 38) rfl
theorem dL_law_687 : decode code 687 = .ok (.iload_n 3, 1) := dq daL_law_360 (i := 39) rfl
theorem daL_law_400 : dchk code [(688, .iconst 1, 1), (689, .iadd, 1), (690, .iaload, 1), (691, .invokevirtual 94, 3), (694, .if_icmp .eq 454, 3), (697, .iconst 0, 1), (698, .ireturn, 1), (699, .aload_n 1, 1), (700, .invokevirtual 95, 3), (703, .aload_n 2, 1), (704, .invokevirtual 99, 3), (707, .lcmp, 1), (708, .ifCond .eq 440, 3), (711, .iconst 0, 1), (712, .ireturn, 1), (713, .aload_n 1, 1), (714, .invokevirtual 100, 3), (717, .aload_n 2, 1), (718, .invokevirtual 103, 3), (721, .if_icmp .eq 427, 3), (724, .iconst 0, 1), (725, .ireturn, 1), (726, .aload_n 1, 1), (727, .invokevirtual 104, 3), (730, .aload_n 2, 1), (731, .invokevirtual 107, 3), (734, .if_icmp .eq 414, 3), (737, .iconst 0, 1), (738, .ireturn, 1), (739, .aload_n 1, 1), (740, .aload_n 0, 1), (741, .iload_n 3, 1), (742, .iconst 1, 1), (743, .iadd, 1), (744, .iaload, 1), (745, .aload_n 0, 1), (746, .iload_n 3, 1), (747, .iconst 2, 1), (748, .iadd, 1), (749, .iaload, 1)] = true := by decide +kernel
theorem dL_law_688 : decode code 688 = .ok (.iconst 1, 1) := dq daL_law_400 (i := 0) rfl
theorem dL_law_689 : decode code 689 = .ok (.iadd, 1) := dq daL_law_400 (i := 1) rfl
theorem dL_law_690 : decode code 690 = .ok (.iaload, 1) := dq daL_law_400 (i := 2) rfl
theorem dL_law_691 : decode code 691 = .ok (.invokevirtual 94, 3) := dq daL_law_400 (i := 3) rfl
theorem dL_law_694 : decode code 694 = .ok (.if_icmp .eq 454, 3) := dq daL_law_400 (i := 4) rfl
theorem dL_law_697 : decode code 697 = .ok (.iconst 0, 1) := dq daL_law_400 (i := 5) rfl
theorem dL_law_698 : decode code 698 = .ok (.ireturn, 1) := dq daL_law_400 (i := 6) rfl
theorem dL_law_699 : decode code 699 = .ok (.aload_n 1, 1) := dq daL_law_400 (i := 7) rfl
theorem dL_law_700 : decode code 700 = .ok (.invokevirtual 95, 3) := dq daL_law_400 (i := 8) rfl
theorem dL_law_703 : decode code 703 = .ok (.aload_n 2, 1) := dq daL_law_400 (i := 9) rfl
theorem dL_law_704 : decode code 704 = .ok (.invokevirtual 99, 3) := dq daL_law_400 (i := 10) rfl
theorem dL_law_707 : decode code 707 = .ok (.lcmp, 1) := dq daL_law_400 (i := 11) rfl
theorem dL_law_708 : decode code 708 = .ok (.ifCond .eq 440, 3) := dq daL_law_400 (i := 12) rfl
theorem dL_law_711 : decode code 711 = .ok (.iconst 0, 1) := dq daL_law_400 (i := 13) rfl
theorem dL_law_712 : decode code 712 = .ok (.ireturn, 1) := dq daL_law_400 (i := 14) rfl
theorem dL_law_713 : decode code 713 = .ok (.aload_n 1, 1) := dq daL_law_400 (i := 15) rfl
theorem dL_law_714 : decode code 714 = .ok (.invokevirtual 100, 3) := dq daL_law_400 (i := 16) rfl
theorem dL_law_717 : decode code 717 = .ok (.aload_n 2, 1) := dq daL_law_400 (i := 17) rfl
theorem dL_law_718 : decode code 718 = .ok (.invokevirtual 103, 3) := dq daL_law_400 (i := 18) rfl
theorem dL_law_721 : decode code 721 = .ok (.if_icmp .eq 427, 3) := dq daL_law_400 (i := 19) rfl
theorem dL_law_724 : decode code 724 = .ok (.iconst 0, 1) := dq daL_law_400 (i := 20) rfl
theorem dL_law_725 : decode code 725 = .ok (.ireturn, 1) := dq daL_law_400 (i := 21) rfl
theorem dL_law_726 : decode code 726 = .ok (.aload_n 1, 1) := dq daL_law_400 (i := 22) rfl
theorem dL_law_727 : decode code 727 = .ok (.invokevirtual 104, 3) := dq daL_law_400 (i := 23) rfl
theorem dL_law_730 : decode code 730 = .ok (.aload_n 2, 1) := dq daL_law_400 (i := 24) rfl
theorem dL_law_731 : decode code 731 = .ok (.invokevirtual 107, 3) := dq daL_law_400 (i := 25) rfl
theorem dL_law_734 : decode code 734 = .ok (.if_icmp .eq 414, 3) := dq daL_law_400 (i := 26) rfl
theorem dL_law_737 : decode code 737 = .ok (.iconst 0, 1) := dq daL_law_400 (i := 27) rfl
theorem dL_law_738 : decode code 738 = .ok (.ireturn, 1) := dq daL_law_400 (i := 28) rfl
theorem dL_law_739 : decode code 739 = .ok (.aload_n 1, 1) := dq daL_law_400 (i := 29) rfl
theorem dL_law_740 : decode code 740 = .ok (.aload_n 0, 1) := dq daL_law_400 (i := 30) rfl
theorem dL_law_741 : decode code 741 = .ok (.iload_n 3, 1) := dq daL_law_400 (i := 31) rfl
theorem dL_law_742 : decode code 742 = .ok (.iconst 1, 1) := dq daL_law_400 (i := 32) rfl
theorem dL_law_743 : decode code 743 = .ok (.iadd, 1) := dq daL_law_400 (i := 33) rfl
theorem dL_law_744 : decode code 744 = .ok (.iaload, 1) := dq daL_law_400 (i := 34) rfl
theorem dL_law_745 : decode code 745 = .ok (.aload_n 0, 1) := dq daL_law_400 (i := 35) rfl
theorem dL_law_746 : decode code 746 = .ok (.iload_n 3, 1) := dq daL_law_400 (i := 36) rfl
theorem dL_law_747 : decode code 747 = .ok (.iconst 2, 1) := dq daL_law_400 (i := 37) rfl
theorem dL_law_748 : decode code 748 = .ok (.iadd, 1) := dq daL_law_400 (i := 38) rfl
theorem dL_law_749 : decode code 749 = .ok (.iaload, 1) := dq daL_law_400 (i := 39) rfl
theorem daL_law_440 : dchk code [(750, .invokevirtual 108, 3), (753, .aload_n 2, 1), (754, .aload_n 0, 1), (755, .iload_n 3, 1), (756, .iconst 1, 1), (757, .iadd, 1), (758, .iaload, 1), (759, .aload_n 0, 1), (760, .iload_n 3, 1), (761, .iconst 2, 1), (762, .iadd, 1), (763, .iaload, 1), (764, .invokevirtual 111, 3), (767, .if_icmp .eq 381, 3), (770, .iconst 0, 1), (771, .ireturn, 1), (772, .aload_n 1, 1), (773, .invokevirtual 112, 3), (776, .aload_n 2, 1), (777, .invokevirtual 115, 3), (780, .if_icmp .eq 368, 3), (783, .iconst 0, 1), (784, .ireturn, 1), (785, .aload_n 1, 1), (786, .invokevirtual 116, 3), (789, .aload_n 2, 1), (790, .invokevirtual 119, 3), (793, .if_icmp .eq 355, 3), (796, .iconst 0, 1), (797, .ireturn, 1), (798, .aload_n 1, 1), (799, .aload_n 0, 1), (800, .iload_n 3, 1), (801, .iconst 1, 1), (802, .iadd, 1), (803, .iaload, 1), (804, .aload_n 0, 1), (805, .iload_n 3, 1), (806, .iconst 2, 1), (807, .iadd, 1)] = true := by decide +kernel
theorem dL_law_750 : decode code 750 = .ok (.invokevirtual 108, 3) := dq daL_law_440 (i := 0) rfl
theorem dL_law_753 : decode code 753 = .ok (.aload_n 2, 1) := dq daL_law_440 (i := 1) rfl
theorem dL_law_754 : decode code 754 = .ok (.aload_n 0, 1) := dq daL_law_440 (i := 2) rfl
theorem dL_law_755 : decode code 755 = .ok (.iload_n 3, 1) := dq daL_law_440 (i := 3) rfl
theorem dL_law_756 : decode code 756 = .ok (.iconst 1, 1) := dq daL_law_440 (i := 4) rfl
theorem dL_law_757 : decode code 757 = .ok (.iadd, 1) := dq daL_law_440 (i := 5) rfl
theorem dL_law_758 : decode code 758 = .ok (.iaload, 1) := dq daL_law_440 (i := 6) rfl
theorem dL_law_759 : decode code 759 = .ok (.aload_n 0, 1) := dq daL_law_440 (i := 7) rfl
theorem dL_law_760 : decode code 760 = .ok (.iload_n 3, 1) := dq daL_law_440 (i := 8) rfl
theorem dL_law_761 : decode code 761 = .ok (.iconst 2, 1) := dq daL_law_440 (i := 9) rfl
theorem dL_law_762 : decode code 762 = .ok (.iadd, 1) := dq daL_law_440 (i := 10) rfl
theorem dL_law_763 : decode code 763 = .ok (.iaload, 1) := dq daL_law_440 (i := 11) rfl
theorem dL_law_764 : decode code 764 = .ok (.invokevirtual 111, 3) := dq daL_law_440 (i := 12) rfl
theorem dL_law_767 : decode code 767 = .ok (.if_icmp .eq 381, 3) := dq daL_law_440 (i := 13) rfl
theorem dL_law_770 : decode code 770 = .ok (.iconst 0, 1) := dq daL_law_440 (i := 14) rfl
theorem dL_law_771 : decode code 771 = .ok (.ireturn, 1) := dq daL_law_440 (i := 15) rfl
theorem dL_law_772 : decode code 772 = .ok (.aload_n 1, 1) := dq daL_law_440 (i := 16) rfl
theorem dL_law_773 : decode code 773 = .ok (.invokevirtual 112, 3) := dq daL_law_440 (i := 17) rfl
theorem dL_law_776 : decode code 776 = .ok (.aload_n 2, 1) := dq daL_law_440 (i := 18) rfl
theorem dL_law_777 : decode code 777 = .ok (.invokevirtual 115, 3) := dq daL_law_440 (i := 19) rfl
theorem dL_law_780 : decode code 780 = .ok (.if_icmp .eq 368, 3) := dq daL_law_440 (i := 20) rfl
theorem dL_law_783 : decode code 783 = .ok (.iconst 0, 1) := dq daL_law_440 (i := 21) rfl
theorem dL_law_784 : decode code 784 = .ok (.ireturn, 1) := dq daL_law_440 (i := 22) rfl
theorem dL_law_785 : decode code 785 = .ok (.aload_n 1, 1) := dq daL_law_440 (i := 23) rfl
theorem dL_law_786 : decode code 786 = .ok (.invokevirtual 116, 3) := dq daL_law_440 (i := 24) rfl
theorem dL_law_789 : decode code 789 = .ok (.aload_n 2, 1) := dq daL_law_440 (i := 25) rfl
theorem dL_law_790 : decode code 790 = .ok (.invokevirtual 119, 3) := dq daL_law_440 (i := 26) rfl
theorem dL_law_793 : decode code 793 = .ok (.if_icmp .eq 355, 3) := dq daL_law_440 (i := 27) rfl
theorem dL_law_796 : decode code 796 = .ok (.iconst 0, 1) := dq daL_law_440 (i := 28) rfl
theorem dL_law_797 : decode code 797 = .ok (.ireturn, 1) := dq daL_law_440 (i := 29) rfl
theorem dL_law_798 : decode code 798 = .ok (.aload_n 1, 1) := dq daL_law_440 (i := 30) rfl
theorem dL_law_799 : decode code 799 = .ok (.aload_n 0, 1) := dq daL_law_440 (i := 31) rfl
theorem dL_law_800 : decode code 800 = .ok (.iload_n 3, 1) := dq daL_law_440 (i := 32) rfl
theorem dL_law_801 : decode code 801 = .ok (.iconst 1, 1) := dq daL_law_440 (i := 33) rfl
theorem dL_law_802 : decode code 802 = .ok (.iadd, 1) := dq daL_law_440 (i := 34) rfl
theorem dL_law_803 : decode code 803 = .ok (.iaload, 1) := dq daL_law_440 (i := 35) rfl
theorem dL_law_804 : decode code 804 = .ok (.aload_n 0, 1) := dq daL_law_440 (i := 36) rfl
theorem dL_law_805 : decode code 805 = .ok (.iload_n 3, 1) := dq daL_law_440 (i := 37) rfl
theorem dL_law_806 : decode code 806 = .ok (.iconst 2, 1) := dq daL_law_440 (i := 38) rfl
theorem dL_law_807 : decode code 807 = .ok (.iadd, 1) := dq daL_law_440 (i := 39) rfl
theorem daL_law_480 : dchk code [(808, .iaload, 1), (809, .invokevirtual 120, 3), (812, .aload_n 2, 1), (813, .aload_n 0, 1), (814, .iload_n 3, 1), (815, .iconst 1, 1), (816, .iadd, 1), (817, .iaload, 1), (818, .aload_n 0, 1), (819, .iload_n 3, 1), (820, .iconst 2, 1), (821, .iadd, 1), (822, .iaload, 1), (823, .invokevirtual 123, 3), (826, .if_icmp .eq 322, 3), (829, .iconst 0, 1), (830, .ireturn, 1), (831, .aload_n 1, 1), (832, .aload_n 0, 1), (833, .iload_n 3, 1), (834, .iconst 1, 1), (835, .iadd, 1), (836, .iaload, 1), (837, .invokevirtual 124, 3), (840, .aload_n 2, 1), (841, .aload_n 0, 1), (842, .iload_n 3, 1), (843, .iconst 1, 1), (844, .iadd, 1), (845, .iaload, 1), (846, .invokevirtual 127, 3), (849, .if_icmp .eq 299, 3), (852, .iconst 0, 1), (853, .ireturn, 1), (854, .aload_n 1, 1), (855, .aload_n 0, 1), (856, .iload_n 3, 1), (857, .iconst 1, 1), (858, .iadd, 1), (859, .iaload, 1)] = true := by decide +kernel
theorem dL_law_808 : decode code 808 = .ok (.iaload, 1) := dq daL_law_480 (i := 0) rfl
theorem dL_law_809 : decode code 809 = .ok (.invokevirtual 120, 3) := dq daL_law_480 (i := 1) rfl
theorem dL_law_812 : decode code 812 = .ok (.aload_n 2, 1) := dq daL_law_480 (i := 2) rfl
theorem dL_law_813 : decode code 813 = .ok (.aload_n 0, 1) := dq daL_law_480 (i := 3) rfl
theorem dL_law_814 : decode code 814 = .ok (.iload_n 3, 1) := dq daL_law_480 (i := 4) rfl
theorem dL_law_815 : decode code 815 = .ok (.iconst 1, 1) := dq daL_law_480 (i := 5) rfl
theorem dL_law_816 : decode code 816 = .ok (.iadd, 1) := dq daL_law_480 (i := 6) rfl
theorem dL_law_817 : decode code 817 = .ok (.iaload, 1) := dq daL_law_480 (i := 7) rfl
theorem dL_law_818 : decode code 818 = .ok (.aload_n 0, 1) := dq daL_law_480 (i := 8) rfl
theorem dL_law_819 : decode code 819 = .ok (.iload_n 3, 1) := dq daL_law_480 (i := 9) rfl
theorem dL_law_820 : decode code 820 = .ok (.iconst 2, 1) := dq daL_law_480 (i := 10) rfl
theorem dL_law_821 : decode code 821 = .ok (.iadd, 1) := dq daL_law_480 (i := 11) rfl
theorem dL_law_822 : decode code 822 = .ok (.iaload, 1) := dq daL_law_480 (i := 12) rfl
theorem dL_law_823 : decode code 823 = .ok (.invokevirtual 123, 3) := dq daL_law_480 (i := 13) rfl
theorem dL_law_826 : decode code 826 = .ok (.if_icmp .eq 322, 3) := dq daL_law_480 (i := 14) rfl
theorem dL_law_829 : decode code 829 = .ok (.iconst 0, 1) := dq daL_law_480 (i := 15) rfl
theorem dL_law_830 : decode code 830 = .ok (.ireturn, 1) := dq daL_law_480 (i := 16) rfl
theorem dL_law_831 : decode code 831 = .ok (.aload_n 1, 1) := dq daL_law_480 (i := 17) rfl
theorem dL_law_832 : decode code 832 = .ok (.aload_n 0, 1) := dq daL_law_480 (i := 18) rfl
theorem dL_law_833 : decode code 833 = .ok (.iload_n 3, 1) := dq daL_law_480 (i := 19) rfl
theorem dL_law_834 : decode code 834 = .ok (.iconst 1, 1) := dq daL_law_480 (i := 20) rfl
theorem dL_law_835 : decode code 835 = .ok (.iadd, 1) := dq daL_law_480 (i := 21) rfl
theorem dL_law_836 : decode code 836 = .ok (.iaload, 1) := dq daL_law_480 (i := 22) rfl
theorem dL_law_837 : decode code 837 = .ok (.invokevirtual 124, 3) := dq daL_law_480 (i := 23) rfl
theorem dL_law_840 : decode code 840 = .ok (.aload_n 2, 1) := dq daL_law_480 (i := 24) rfl
theorem dL_law_841 : decode code 841 = .ok (.aload_n 0, 1) := dq daL_law_480 (i := 25) rfl
theorem dL_law_842 : decode code 842 = .ok (.iload_n 3, 1) := dq daL_law_480 (i := 26) rfl
theorem dL_law_843 : decode code 843 = .ok (.iconst 1, 1) := dq daL_law_480 (i := 27) rfl
theorem dL_law_844 : decode code 844 = .ok (.iadd, 1) := dq daL_law_480 (i := 28) rfl
theorem dL_law_845 : decode code 845 = .ok (.iaload, 1) := dq daL_law_480 (i := 29) rfl
theorem dL_law_846 : decode code 846 = .ok (.invokevirtual 127, 3) := dq daL_law_480 (i := 30) rfl
theorem dL_law_849 : decode code 849 = .ok (.if_icmp .eq 299, 3) := dq daL_law_480 (i := 31) rfl
theorem dL_law_852 : decode code 852 = .ok (.iconst 0, 1) := dq daL_law_480 (i := 32) rfl
theorem dL_law_853 : decode code 853 = .ok (.ireturn, 1) := dq daL_law_480 (i := 33) rfl
theorem dL_law_854 : decode code 854 = .ok (.aload_n 1, 1) := dq daL_law_480 (i := 34) rfl
theorem dL_law_855 : decode code 855 = .ok (.aload_n 0, 1) := dq daL_law_480 (i := 35) rfl
theorem dL_law_856 : decode code 856 = .ok (.iload_n 3, 1) := dq daL_law_480 (i := 36) rfl
theorem dL_law_857 : decode code 857 = .ok (.iconst 1, 1) := dq daL_law_480 (i := 37) rfl
theorem dL_law_858 : decode code 858 = .ok (.iadd, 1) := dq daL_law_480 (i := 38) rfl
theorem dL_law_859 : decode code 859 = .ok (.iaload, 1) := dq daL_law_480 (i := 39) rfl
theorem daL_law_520 : dchk code [(860, .aload_n 0, 1), (861, .iload_n 3, 1), (862, .iconst 2, 1), (863, .iadd, 1), (864, .iaload, 1), (865, .invokevirtual 128, 3), (868, .aload_n 2, 1), (869, .aload_n 0, 1), (870, .iload_n 3, 1), (871, .iconst 1, 1), (872, .iadd, 1), (873, .iaload, 1), (874, .aload_n 0, 1), (875, .iload_n 3, 1), (876, .iconst 2, 1), (877, .iadd, 1), (878, .iaload, 1), (879, .invokevirtual 131, 3), (882, .if_icmp .eq 266, 3), (885, .iconst 0, 1), (886, .ireturn, 1), (887, .aload_n 1, 1), (888, .aload_n 0, 1), (889, .iload_n 3, 1), (890, .iconst 1, 1), (891, .iadd, 1), (892, .iaload, 1), (893, .invokevirtual 132, 3), (896, .aload_n 2, 1), (897, .aload_n 0, 1), (898, .iload_n 3, 1), (899, .iconst 1, 1), (900, .iadd, 1), (901, .iaload, 1), (902, .invokevirtual 135, 3), (905, .if_icmp .eq 243, 3), (908, .iconst 0, 1), (909, .ireturn, 1), (910, .aload_n 1, 1), (911, .aload_n 0, 1)] = true := by decide +kernel
theorem dL_law_860 : decode code 860 = .ok (.aload_n 0, 1) := dq daL_law_520 (i := 0) rfl
theorem dL_law_861 : decode code 861 = .ok (.iload_n 3, 1) := dq daL_law_520 (i := 1) rfl
theorem dL_law_862 : decode code 862 = .ok (.iconst 2, 1) := dq daL_law_520 (i := 2) rfl
theorem dL_law_863 : decode code 863 = .ok (.iadd, 1) := dq daL_law_520 (i := 3) rfl
theorem dL_law_864 : decode code 864 = .ok (.iaload, 1) := dq daL_law_520 (i := 4) rfl
theorem dL_law_865 : decode code 865 = .ok (.invokevirtual 128, 3) := dq daL_law_520 (i := 5) rfl
theorem dL_law_868 : decode code 868 = .ok (.aload_n 2, 1) := dq daL_law_520 (i := 6) rfl
theorem dL_law_869 : decode code 869 = .ok (.aload_n 0, 1) := dq daL_law_520 (i := 7) rfl
theorem dL_law_870 : decode code 870 = .ok (.iload_n 3, 1) := dq daL_law_520 (i := 8) rfl
theorem dL_law_871 : decode code 871 = .ok (.iconst 1, 1) := dq daL_law_520 (i := 9) rfl
theorem dL_law_872 : decode code 872 = .ok (.iadd, 1) := dq daL_law_520 (i := 10) rfl
theorem dL_law_873 : decode code 873 = .ok (.iaload, 1) := dq daL_law_520 (i := 11) rfl
theorem dL_law_874 : decode code 874 = .ok (.aload_n 0, 1) := dq daL_law_520 (i := 12) rfl
theorem dL_law_875 : decode code 875 = .ok (.iload_n 3, 1) := dq daL_law_520 (i := 13) rfl
theorem dL_law_876 : decode code 876 = .ok (.iconst 2, 1) := dq daL_law_520 (i := 14) rfl
theorem dL_law_877 : decode code 877 = .ok (.iadd, 1) := dq daL_law_520 (i := 15) rfl
theorem dL_law_878 : decode code 878 = .ok (.iaload, 1) := dq daL_law_520 (i := 16) rfl
theorem dL_law_879 : decode code 879 = .ok (.invokevirtual 131, 3) := dq daL_law_520 (i := 17) rfl
theorem dL_law_882 : decode code 882 = .ok (.if_icmp .eq 266, 3) := dq daL_law_520 (i := 18) rfl
theorem dL_law_885 : decode code 885 = .ok (.iconst 0, 1) := dq daL_law_520 (i := 19) rfl
theorem dL_law_886 : decode code 886 = .ok (.ireturn, 1) := dq daL_law_520 (i := 20) rfl
theorem dL_law_887 : decode code 887 = .ok (.aload_n 1, 1) := dq daL_law_520 (i := 21) rfl
theorem dL_law_888 : decode code 888 = .ok (.aload_n 0, 1) := dq daL_law_520 (i := 22) rfl
theorem dL_law_889 : decode code 889 = .ok (.iload_n 3, 1) := dq daL_law_520 (i := 23) rfl
theorem dL_law_890 : decode code 890 = .ok (.iconst 1, 1) := dq daL_law_520 (i := 24) rfl
theorem dL_law_891 : decode code 891 = .ok (.iadd, 1) := dq daL_law_520 (i := 25) rfl
theorem dL_law_892 : decode code 892 = .ok (.iaload, 1) := dq daL_law_520 (i := 26) rfl
theorem dL_law_893 : decode code 893 = .ok (.invokevirtual 132, 3) := dq daL_law_520 (i := 27) rfl
theorem dL_law_896 : decode code 896 = .ok (.aload_n 2, 1) := dq daL_law_520 (i := 28) rfl
theorem dL_law_897 : decode code 897 = .ok (.aload_n 0, 1) := dq daL_law_520 (i := 29) rfl
theorem dL_law_898 : decode code 898 = .ok (.iload_n 3, 1) := dq daL_law_520 (i := 30) rfl
theorem dL_law_899 : decode code 899 = .ok (.iconst 1, 1) := dq daL_law_520 (i := 31) rfl
theorem dL_law_900 : decode code 900 = .ok (.iadd, 1) := dq daL_law_520 (i := 32) rfl
theorem dL_law_901 : decode code 901 = .ok (.iaload, 1) := dq daL_law_520 (i := 33) rfl
theorem dL_law_902 : decode code 902 = .ok (.invokevirtual 135, 3) := dq daL_law_520 (i := 34) rfl
theorem dL_law_905 : decode code 905 = .ok (.if_icmp .eq 243, 3) := dq daL_law_520 (i := 35) rfl
theorem dL_law_908 : decode code 908 = .ok (.iconst 0, 1) := dq daL_law_520 (i := 36) rfl
theorem dL_law_909 : decode code 909 = .ok (.ireturn, 1) := dq daL_law_520 (i := 37) rfl
theorem dL_law_910 : decode code 910 = .ok (.aload_n 1, 1) := dq daL_law_520 (i := 38) rfl
theorem dL_law_911 : decode code 911 = .ok (.aload_n 0, 1) := dq daL_law_520 (i := 39) rfl
theorem daL_law_560 : dchk code [(912, .iload_n 3, 1), (913, .iconst 1, 1), (914, .iadd, 1), (915, .iaload, 1), (916, .aload_n 0, 1), (917, .iload_n 3, 1), (918, .iconst 2, 1), (919, .iadd, 1), (920, .iaload, 1), (921, .invokevirtual 136, 3), (924, .aload_n 2, 1), (925, .aload_n 0, 1), (926, .iload_n 3, 1), (927, .iconst 1, 1), (928, .iadd, 1), (929, .iaload, 1), (930, .aload_n 0, 1), (931, .iload_n 3, 1), (932, .iconst 2, 1), (933, .iadd, 1), (934, .iaload, 1), (935, .invokevirtual 139, 3), (938, .if_icmp .eq 210, 3), (941, .iconst 0, 1), (942, .ireturn, 1), (943, .aload_n 1, 1), (944, .aload_n 0, 1), (945, .iload_n 3, 1), (946, .iconst 1, 1), (947, .iadd, 1), (948, .iaload, 1), (949, .invokevirtual 140, 3), (952, .aload_n 2, 1), (953, .aload_n 0, 1), (954, .iload_n 3, 1), (955, .iconst 1, 1), (956, .iadd, 1), (957, .iaload, 1), (958, .invokevirtual 143, 3), (961, .if_icmp .eq 187, 3)] = true := by decide +kernel
theorem dL_law_912 : decode code 912 = .ok (.iload_n 3, 1) := dq daL_law_560 (i := 0) rfl
theorem dL_law_913 : decode code 913 = .ok (.iconst 1, 1) := dq daL_law_560 (i := 1) rfl
theorem dL_law_914 : decode code 914 = .ok (.iadd, 1) := dq daL_law_560 (i := 2) rfl
theorem dL_law_915 : decode code 915 = .ok (.iaload, 1) := dq daL_law_560 (i := 3) rfl
theorem dL_law_916 : decode code 916 = .ok (.aload_n 0, 1) := dq daL_law_560 (i := 4) rfl
theorem dL_law_917 : decode code 917 = .ok (.iload_n 3, 1) := dq daL_law_560 (i := 5) rfl
theorem dL_law_918 : decode code 918 = .ok (.iconst 2, 1) := dq daL_law_560 (i := 6) rfl
theorem dL_law_919 : decode code 919 = .ok (.iadd, 1) := dq daL_law_560 (i := 7) rfl
theorem dL_law_920 : decode code 920 = .ok (.iaload, 1) := dq daL_law_560 (i := 8) rfl
theorem dL_law_921 : decode code 921 = .ok (.invokevirtual 136, 3) := dq daL_law_560 (i := 9) rfl
theorem dL_law_924 : decode code 924 = .ok (.aload_n 2, 1) := dq daL_law_560 (i := 10) rfl
theorem dL_law_925 : decode code 925 = .ok (.aload_n 0, 1) := dq daL_law_560 (i := 11) rfl
theorem dL_law_926 : decode code 926 = .ok (.iload_n 3, 1) := dq daL_law_560 (i := 12) rfl
theorem dL_law_927 : decode code 927 = .ok (.iconst 1, 1) := dq daL_law_560 (i := 13) rfl
theorem dL_law_928 : decode code 928 = .ok (.iadd, 1) := dq daL_law_560 (i := 14) rfl
theorem dL_law_929 : decode code 929 = .ok (.iaload, 1) := dq daL_law_560 (i := 15) rfl
theorem dL_law_930 : decode code 930 = .ok (.aload_n 0, 1) := dq daL_law_560 (i := 16) rfl
theorem dL_law_931 : decode code 931 = .ok (.iload_n 3, 1) := dq daL_law_560 (i := 17) rfl
theorem dL_law_932 : decode code 932 = .ok (.iconst 2, 1) := dq daL_law_560 (i := 18) rfl
theorem dL_law_933 : decode code 933 = .ok (.iadd, 1) := dq daL_law_560 (i := 19) rfl
theorem dL_law_934 : decode code 934 = .ok (.iaload, 1) := dq daL_law_560 (i := 20) rfl
theorem dL_law_935 : decode code 935 = .ok (.invokevirtual 139, 3) := dq daL_law_560 (i := 21) rfl
theorem dL_law_938 : decode code 938 = .ok (.if_icmp .eq 210, 3) := dq daL_law_560 (i := 22) rfl
theorem dL_law_941 : decode code 941 = .ok (.iconst 0, 1) := dq daL_law_560 (i := 23) rfl
theorem dL_law_942 : decode code 942 = .ok (.ireturn, 1) := dq daL_law_560 (i := 24) rfl
theorem dL_law_943 : decode code 943 = .ok (.aload_n 1, 1) := dq daL_law_560 (i := 25) rfl
theorem dL_law_944 : decode code 944 = .ok (.aload_n 0, 1) := dq daL_law_560 (i := 26) rfl
theorem dL_law_945 : decode code 945 = .ok (.iload_n 3, 1) := dq daL_law_560 (i := 27) rfl
theorem dL_law_946 : decode code 946 = .ok (.iconst 1, 1) := dq daL_law_560 (i := 28) rfl
theorem dL_law_947 : decode code 947 = .ok (.iadd, 1) := dq daL_law_560 (i := 29) rfl
theorem dL_law_948 : decode code 948 = .ok (.iaload, 1) := dq daL_law_560 (i := 30) rfl
theorem dL_law_949 : decode code 949 = .ok (.invokevirtual 140, 3) := dq daL_law_560 (i := 31) rfl
theorem dL_law_952 : decode code 952 = .ok (.aload_n 2, 1) := dq daL_law_560 (i := 32) rfl
theorem dL_law_953 : decode code 953 = .ok (.aload_n 0, 1) := dq daL_law_560 (i := 33) rfl
theorem dL_law_954 : decode code 954 = .ok (.iload_n 3, 1) := dq daL_law_560 (i := 34) rfl
theorem dL_law_955 : decode code 955 = .ok (.iconst 1, 1) := dq daL_law_560 (i := 35) rfl
theorem dL_law_956 : decode code 956 = .ok (.iadd, 1) := dq daL_law_560 (i := 36) rfl
theorem dL_law_957 : decode code 957 = .ok (.iaload, 1) := dq daL_law_560 (i := 37) rfl
theorem dL_law_958 : decode code 958 = .ok (.invokevirtual 143, 3) := dq daL_law_560 (i := 38) rfl
theorem dL_law_961 : decode code 961 = .ok (.if_icmp .eq 187, 3) := dq daL_law_560 (i := 39) rfl
theorem daL_law_600 : dchk code [(964, .iconst 0, 1), (965, .ireturn, 1), (966, .aload_n 1, 1), (967, .aload_n 0, 1), (968, .iload_n 3, 1), (969, .iconst 1, 1), (970, .iadd, 1), (971, .iaload, 1), (972, .aload_n 0, 1), (973, .iload_n 3, 1), (974, .iconst 2, 1), (975, .iadd, 1), (976, .iaload, 1), (977, .invokevirtual 144, 3), (980, .aload_n 2, 1), (981, .aload_n 0, 1), (982, .iload_n 3, 1), (983, .iconst 1, 1), (984, .iadd, 1), (985, .iaload, 1), (986, .aload_n 0, 1), (987, .iload_n 3, 1), (988, .iconst 2, 1), (989, .iadd, 1), (990, .iaload, 1), (991, .invokevirtual 147, 3), (994, .if_icmp .eq 154, 3), (997, .iconst 0, 1), (998, .ireturn, 1), (999, .aload_n 1, 1), (1000, .aload_n 0, 1), (1001, .iload_n 3, 1), (1002, .iconst 1, 1), (1003, .iadd, 1), (1004, .iaload, 1), (1005, .aload_n 0, 1), (1006, .iload_n 3, 1), (1007, .iconst 2, 1), (1008, .iadd, 1), (1009, .iaload, 1)] = true := by decide +kernel
theorem dL_law_964 : decode code 964 = .ok (.iconst 0, 1) := dq daL_law_600 (i := 0) rfl
theorem dL_law_965 : decode code 965 = .ok (.ireturn, 1) := dq daL_law_600 (i := 1) rfl
theorem dL_law_966 : decode code 966 = .ok (.aload_n 1, 1) := dq daL_law_600 (i := 2) rfl
theorem dL_law_967 : decode code 967 = .ok (.aload_n 0, 1) := dq daL_law_600 (i := 3) rfl
theorem dL_law_968 : decode code 968 = .ok (.iload_n 3, 1) := dq daL_law_600 (i := 4) rfl
theorem dL_law_969 : decode code 969 = .ok (.iconst 1, 1) := dq daL_law_600 (i := 5) rfl
theorem dL_law_970 : decode code 970 = .ok (.iadd, 1) := dq daL_law_600 (i := 6) rfl
theorem dL_law_971 : decode code 971 = .ok (.iaload, 1) := dq daL_law_600 (i := 7) rfl
theorem dL_law_972 : decode code 972 = .ok (.aload_n 0, 1) := dq daL_law_600 (i := 8) rfl
theorem dL_law_973 : decode code 973 = .ok (.iload_n 3, 1) := dq daL_law_600 (i := 9) rfl
theorem dL_law_974 : decode code 974 = .ok (.iconst 2, 1) := dq daL_law_600 (i := 10) rfl
theorem dL_law_975 : decode code 975 = .ok (.iadd, 1) := dq daL_law_600 (i := 11) rfl
theorem dL_law_976 : decode code 976 = .ok (.iaload, 1) := dq daL_law_600 (i := 12) rfl
theorem dL_law_977 : decode code 977 = .ok (.invokevirtual 144, 3) := dq daL_law_600 (i := 13) rfl
theorem dL_law_980 : decode code 980 = .ok (.aload_n 2, 1) := dq daL_law_600 (i := 14) rfl
theorem dL_law_981 : decode code 981 = .ok (.aload_n 0, 1) := dq daL_law_600 (i := 15) rfl
theorem dL_law_982 : decode code 982 = .ok (.iload_n 3, 1) := dq daL_law_600 (i := 16) rfl
theorem dL_law_983 : decode code 983 = .ok (.iconst 1, 1) := dq daL_law_600 (i := 17) rfl
theorem dL_law_984 : decode code 984 = .ok (.iadd, 1) := dq daL_law_600 (i := 18) rfl
theorem dL_law_985 : decode code 985 = .ok (.iaload, 1) := dq daL_law_600 (i := 19) rfl
theorem dL_law_986 : decode code 986 = .ok (.aload_n 0, 1) := dq daL_law_600 (i := 20) rfl
theorem dL_law_987 : decode code 987 = .ok (.iload_n 3, 1) := dq daL_law_600 (i := 21) rfl
theorem dL_law_988 : decode code 988 = .ok (.iconst 2, 1) := dq daL_law_600 (i := 22) rfl
theorem dL_law_989 : decode code 989 = .ok (.iadd, 1) := dq daL_law_600 (i := 23) rfl
theorem dL_law_990 : decode code 990 = .ok (.iaload, 1) := dq daL_law_600 (i := 24) rfl
theorem dL_law_991 : decode code 991 = .ok (.invokevirtual 147, 3) := dq daL_law_600 (i := 25) rfl
theorem dL_law_994 : decode code 994 = .ok (.if_icmp .eq 154, 3) := dq daL_law_600 (i := 26) rfl
theorem dL_law_997 : decode code 997 = .ok (.iconst 0, 1) := dq daL_law_600 (i := 27) rfl
theorem dL_law_998 : decode code 998 = .ok (.ireturn, 1) := dq daL_law_600 (i := 28) rfl
theorem dL_law_999 : decode code 999 = .ok (.aload_n 1, 1) := dq daL_law_600 (i := 29) rfl
theorem dL_law_1000 : decode code 1000 = .ok (.aload_n 0, 1) := dq daL_law_600 (i := 30) rfl
theorem dL_law_1001 : decode code 1001 = .ok (.iload_n 3, 1) := dq daL_law_600 (i := 31) rfl
theorem dL_law_1002 : decode code 1002 = .ok (.iconst 1, 1) := dq daL_law_600 (i := 32) rfl
theorem dL_law_1003 : decode code 1003 = .ok (.iadd, 1) := dq daL_law_600 (i := 33) rfl
theorem dL_law_1004 : decode code 1004 = .ok (.iaload, 1) := dq daL_law_600 (i := 34) rfl
theorem dL_law_1005 : decode code 1005 = .ok (.aload_n 0, 1) := dq daL_law_600 (i := 35) rfl
theorem dL_law_1006 : decode code 1006 = .ok (.iload_n 3, 1) := dq daL_law_600 (i := 36) rfl
theorem dL_law_1007 : decode code 1007 = .ok (.iconst 2, 1) := dq daL_law_600 (i := 37) rfl
theorem dL_law_1008 : decode code 1008 = .ok (.iadd, 1) := dq daL_law_600 (i := 38) rfl
theorem dL_law_1009 : decode code 1009 = .ok (.iaload, 1) := dq daL_law_600 (i := 39) rfl
theorem daL_law_640 : dchk code [(1010, .aload_n 0, 1), (1011, .iload_n 3, 1), (1012, .iconst 3, 1), (1013, .iadd, 1), (1014, .iaload, 1), (1015, .invokevirtual 148, 3), (1018, .aload_n 2, 1), (1019, .aload_n 0, 1), (1020, .iload_n 3, 1), (1021, .iconst 1, 1), (1022, .iadd, 1), (1023, .iaload, 1), (1024, .aload_n 0, 1), (1025, .iload_n 3, 1), (1026, .iconst 2, 1), (1027, .iadd, 1), (1028, .iaload, 1), (1029, .aload_n 0, 1), (1030, .iload_n 3, 1), (1031, .iconst 3, 1), (1032, .iadd, 1), (1033, .iaload, 1), (1034, .invokevirtual 152, 3), (1037, .if_icmp .eq 111, 3), (1040, .iconst 0, 1), (1041, .ireturn, 1), (1042, .aload_n 1, 1), (1043, .aload_n 0, 1), (1044, .iload_n 3, 1), (1045, .iconst 1, 1), (1046, .iadd, 1), (1047, .iaload, 1), (1048, .aload_n 0, 1), (1049, .iload_n 3, 1), (1050, .iconst 2, 1), (1051, .iadd, 1), (1052, .iaload, 1), (1053, .invokevirtual 153, 3), (1056, .aload_n 2, 1), (1057, .aload_n 0, 1)] = true := by decide +kernel
theorem dL_law_1010 : decode code 1010 = .ok (.aload_n 0, 1) := dq daL_law_640 (i := 0) rfl
theorem dL_law_1011 : decode code 1011 = .ok (.iload_n 3, 1) := dq daL_law_640 (i := 1) rfl
theorem dL_law_1012 : decode code 1012 = .ok (.iconst 3, 1) := dq daL_law_640 (i := 2) rfl
theorem dL_law_1013 : decode code 1013 = .ok (.iadd, 1) := dq daL_law_640 (i := 3) rfl
theorem dL_law_1014 : decode code 1014 = .ok (.iaload, 1) := dq daL_law_640 (i := 4) rfl
theorem dL_law_1015 : decode code 1015 = .ok (.invokevirtual 148, 3) := dq daL_law_640 (i := 5) rfl
theorem dL_law_1018 : decode code 1018 = .ok (.aload_n 2, 1) := dq daL_law_640 (i := 6) rfl
theorem dL_law_1019 : decode code 1019 = .ok (.aload_n 0, 1) := dq daL_law_640 (i := 7) rfl
theorem dL_law_1020 : decode code 1020 = .ok (.iload_n 3, 1) := dq daL_law_640 (i := 8) rfl
theorem dL_law_1021 : decode code 1021 = .ok (.iconst 1, 1) := dq daL_law_640 (i := 9) rfl
theorem dL_law_1022 : decode code 1022 = .ok (.iadd, 1) := dq daL_law_640 (i := 10) rfl
theorem dL_law_1023 : decode code 1023 = .ok (.iaload, 1) := dq daL_law_640 (i := 11) rfl
theorem dL_law_1024 : decode code 1024 = .ok (.aload_n 0, 1) := dq daL_law_640 (i := 12) rfl
theorem dL_law_1025 : decode code 1025 = .ok (.iload_n 3, 1) := dq daL_law_640 (i := 13) rfl
theorem dL_law_1026 : decode code 1026 = .ok (.iconst 2, 1) := dq daL_law_640 (i := 14) rfl
theorem dL_law_1027 : decode code 1027 = .ok (.iadd, 1) := dq daL_law_640 (i := 15) rfl
theorem dL_law_1028 : decode code 1028 = .ok (.iaload, 1) := dq daL_law_640 (i := 16) rfl
theorem dL_law_1029 : decode code 1029 = .ok (.aload_n 0, 1) := dq daL_law_640 (i := 17) rfl
theorem dL_law_1030 : decode code 1030 = .ok (.iload_n 3, 1) := dq daL_law_640 (i := 18) rfl
theorem dL_law_1031 : decode code 1031 = .ok (.iconst 3, 1) := dq daL_law_640 (i := 19) rfl
theorem dL_law_1032 : decode code 1032 = .ok (.iadd, 1) := dq daL_law_640 (i := 20) rfl
theorem dL_law_1033 : decode code 1033 = .ok (.iaload, 1) := dq daL_law_640 (i := 21) rfl
theorem dL_law_1034 : decode code 1034 = .ok (.invokevirtual 152, 3) := dq daL_law_640 (i := 22) rfl
theorem dL_law_1037 : decode code 1037 = .ok (.if_icmp .eq 111, 3) := dq daL_law_640 (i := 23) rfl
theorem dL_law_1040 : decode code 1040 = .ok (.iconst 0, 1) := dq daL_law_640 (i := 24) rfl
theorem dL_law_1041 : decode code 1041 = .ok (.ireturn, 1) := dq daL_law_640 (i := 25) rfl
theorem dL_law_1042 : decode code 1042 = .ok (.aload_n 1, 1) := dq daL_law_640 (i := 26) rfl
theorem dL_law_1043 : decode code 1043 = .ok (.aload_n 0, 1) := dq daL_law_640 (i := 27) rfl
theorem dL_law_1044 : decode code 1044 = .ok (.iload_n 3, 1) := dq daL_law_640 (i := 28) rfl
theorem dL_law_1045 : decode code 1045 = .ok (.iconst 1, 1) := dq daL_law_640 (i := 29) rfl
theorem dL_law_1046 : decode code 1046 = .ok (.iadd, 1) := dq daL_law_640 (i := 30) rfl
theorem dL_law_1047 : decode code 1047 = .ok (.iaload, 1) := dq daL_law_640 (i := 31) rfl
theorem dL_law_1048 : decode code 1048 = .ok (.aload_n 0, 1) := dq daL_law_640 (i := 32) rfl
theorem dL_law_1049 : decode code 1049 = .ok (.iload_n 3, 1) := dq daL_law_640 (i := 33) rfl
theorem dL_law_1050 : decode code 1050 = .ok (.iconst 2, 1) := dq daL_law_640 (i := 34) rfl
theorem dL_law_1051 : decode code 1051 = .ok (.iadd, 1) := dq daL_law_640 (i := 35) rfl
theorem dL_law_1052 : decode code 1052 = .ok (.iaload, 1) := dq daL_law_640 (i := 36) rfl
theorem dL_law_1053 : decode code 1053 = .ok (.invokevirtual 153, 3) := dq daL_law_640 (i := 37) rfl
theorem dL_law_1056 : decode code 1056 = .ok (.aload_n 2, 1) := dq daL_law_640 (i := 38) rfl
theorem dL_law_1057 : decode code 1057 = .ok (.aload_n 0, 1) := dq daL_law_640 (i := 39) rfl
theorem daL_law_680 : dchk code [(1058, .iload_n 3, 1), (1059, .iconst 1, 1), (1060, .iadd, 1), (1061, .iaload, 1), (1062, .aload_n 0, 1), (1063, .iload_n 3, 1), (1064, .iconst 2, 1), (1065, .iadd, 1), (1066, .iaload, 1), (1067, .invokevirtual 157, 3), (1070, .lcmp, 1), (1071, .ifCond .eq 77, 3), (1074, .iconst 0, 1), (1075, .ireturn, 1), (1076, .aload_n 1, 1), (1077, .aload_n 0, 1), (1078, .iload_n 3, 1), (1079, .iconst 1, 1), (1080, .iadd, 1), (1081, .iaload, 1), (1082, .invokevirtual 158, 3), (1085, .aload_n 2, 1), (1086, .aload_n 0, 1), (1087, .iload_n 3, 1), (1088, .iconst 1, 1), (1089, .iadd, 1), (1090, .iaload, 1), (1091, .invokevirtual 161, 3), (1094, .if_icmp .eq 54, 3), (1097, .iconst 0, 1), (1098, .ireturn, 1), (1099, .aload_n 1, 1), (1100, .invokevirtual 162, 3), (1103, .aload_n 2, 1), (1104, .invokevirtual 165, 3), (1107, .if_icmp .eq 41, 3), (1110, .iconst 0, 1), (1111, .ireturn, 1), (1112, .aload_n 1, 1), (1113, .invokevirtual 166, 3)] = true := by decide +kernel
theorem dL_law_1058 : decode code 1058 = .ok (.iload_n 3, 1) := dq daL_law_680 (i := 0) rfl
theorem dL_law_1059 : decode code 1059 = .ok (.iconst 1, 1) := dq daL_law_680 (i := 1) rfl
theorem dL_law_1060 : decode code 1060 = .ok (.iadd, 1) := dq daL_law_680 (i := 2) rfl
theorem dL_law_1061 : decode code 1061 = .ok (.iaload, 1) := dq daL_law_680 (i := 3) rfl
theorem dL_law_1062 : decode code 1062 = .ok (.aload_n 0, 1) := dq daL_law_680 (i := 4) rfl
theorem dL_law_1063 : decode code 1063 = .ok (.iload_n 3, 1) := dq daL_law_680 (i := 5) rfl
theorem dL_law_1064 : decode code 1064 = .ok (.iconst 2, 1) := dq daL_law_680 (i := 6) rfl
theorem dL_law_1065 : decode code 1065 = .ok (.iadd, 1) := dq daL_law_680 (i := 7) rfl
theorem dL_law_1066 : decode code 1066 = .ok (.iaload, 1) := dq daL_law_680 (i := 8) rfl
theorem dL_law_1067 : decode code 1067 = .ok (.invokevirtual 157, 3) := dq daL_law_680 (i := 9) rfl
theorem dL_law_1070 : decode code 1070 = .ok (.lcmp, 1) := dq daL_law_680 (i := 10) rfl
theorem dL_law_1071 : decode code 1071 = .ok (.ifCond .eq 77, 3) := dq daL_law_680 (i := 11) rfl
theorem dL_law_1074 : decode code 1074 = .ok (.iconst 0, 1) := dq daL_law_680 (i := 12) rfl
theorem dL_law_1075 : decode code 1075 = .ok (.ireturn, 1) := dq daL_law_680 (i := 13) rfl
theorem dL_law_1076 : decode code 1076 = .ok (.aload_n 1, 1) := dq daL_law_680 (i := 14) rfl
theorem dL_law_1077 : decode code 1077 = .ok (.aload_n 0, 1) := dq daL_law_680 (i := 15) rfl
theorem dL_law_1078 : decode code 1078 = .ok (.iload_n 3, 1) := dq daL_law_680 (i := 16) rfl
theorem dL_law_1079 : decode code 1079 = .ok (.iconst 1, 1) := dq daL_law_680 (i := 17) rfl
theorem dL_law_1080 : decode code 1080 = .ok (.iadd, 1) := dq daL_law_680 (i := 18) rfl
theorem dL_law_1081 : decode code 1081 = .ok (.iaload, 1) := dq daL_law_680 (i := 19) rfl
theorem dL_law_1082 : decode code 1082 = .ok (.invokevirtual 158, 3) := dq daL_law_680 (i := 20) rfl
theorem dL_law_1085 : decode code 1085 = .ok (.aload_n 2, 1) := dq daL_law_680 (i := 21) rfl
theorem dL_law_1086 : decode code 1086 = .ok (.aload_n 0, 1) := dq daL_law_680 (i := 22) rfl
theorem dL_law_1087 : decode code 1087 = .ok (.iload_n 3, 1) := dq daL_law_680 (i := 23) rfl
theorem dL_law_1088 : decode code 1088 = .ok (.iconst 1, 1) := dq daL_law_680 (i := 24) rfl
theorem dL_law_1089 : decode code 1089 = .ok (.iadd, 1) := dq daL_law_680 (i := 25) rfl
theorem dL_law_1090 : decode code 1090 = .ok (.iaload, 1) := dq daL_law_680 (i := 26) rfl
theorem dL_law_1091 : decode code 1091 = .ok (.invokevirtual 161, 3) := dq daL_law_680 (i := 27) rfl
theorem dL_law_1094 : decode code 1094 = .ok (.if_icmp .eq 54, 3) := dq daL_law_680 (i := 28) rfl
theorem dL_law_1097 : decode code 1097 = .ok (.iconst 0, 1) := dq daL_law_680 (i := 29) rfl
theorem dL_law_1098 : decode code 1098 = .ok (.ireturn, 1) := dq daL_law_680 (i := 30) rfl
theorem dL_law_1099 : decode code 1099 = .ok (.aload_n 1, 1) := dq daL_law_680 (i := 31) rfl
theorem dL_law_1100 : decode code 1100 = .ok (.invokevirtual 162, 3) := dq daL_law_680 (i := 32) rfl
theorem dL_law_1103 : decode code 1103 = .ok (.aload_n 2, 1) := dq daL_law_680 (i := 33) rfl
theorem dL_law_1104 : decode code 1104 = .ok (.invokevirtual 165, 3) := dq daL_law_680 (i := 34) rfl
theorem dL_law_1107 : decode code 1107 = .ok (.if_icmp .eq 41, 3) := dq daL_law_680 (i := 35) rfl
theorem dL_law_1110 : decode code 1110 = .ok (.iconst 0, 1) := dq daL_law_680 (i := 36) rfl
theorem dL_law_1111 : decode code 1111 = .ok (.ireturn, 1) := dq daL_law_680 (i := 37) rfl
theorem dL_law_1112 : decode code 1112 = .ok (.aload_n 1, 1) := dq daL_law_680 (i := 38) rfl
theorem dL_law_1113 : decode code 1113 = .ok (.invokevirtual 166, 3) := dq daL_law_680 (i := 39) rfl
theorem daL_law_720 : dchk code [(1116, .aload_n 2, 1), (1117, .invokevirtual 169, 3), (1120, .if_icmp .eq 28, 3), (1123, .iconst 0, 1), (1124, .ireturn, 1), (1125, .aload_n 1, 1), (1126, .aload_n 0, 1), (1127, .iload_n 3, 1), (1128, .iconst 1, 1), (1129, .iadd, 1), (1130, .iaload, 1), (1131, .invokevirtual 170, 3), (1134, .aload_n 2, 1), (1135, .aload_n 0, 1), (1136, .iload_n 3, 1), (1137, .iconst 1, 1), (1138, .iadd, 1), (1139, .iaload, 1), (1140, .invokevirtual 173, 3), (1143, .if_icmp .eq 5, 3), (1146, .iconst 0, 1), (1147, .ireturn, 1), (1148, .iinc 3 5, 3), (1151, .goto (-1133), 3), (1154, .iconst 1, 1), (1155, .ireturn, 1)] = true := by decide +kernel
theorem dL_law_1116 : decode code 1116 = .ok (.aload_n 2, 1) := dq daL_law_720 (i := 0) rfl
theorem dL_law_1117 : decode code 1117 = .ok (.invokevirtual 169, 3) := dq daL_law_720 (i := 1) rfl
theorem dL_law_1120 : decode code 1120 = .ok (.if_icmp .eq 28, 3) := dq daL_law_720 (i := 2) rfl
theorem dL_law_1123 : decode code 1123 = .ok (.iconst 0, 1) := dq daL_law_720 (i := 3) rfl
theorem dL_law_1124 : decode code 1124 = .ok (.ireturn, 1) := dq daL_law_720 (i := 4) rfl
theorem dL_law_1125 : decode code 1125 = .ok (.aload_n 1, 1) := dq daL_law_720 (i := 5) rfl
theorem dL_law_1126 : decode code 1126 = .ok (.aload_n 0, 1) := dq daL_law_720 (i := 6) rfl
theorem dL_law_1127 : decode code 1127 = .ok (.iload_n 3, 1) := dq daL_law_720 (i := 7) rfl
theorem dL_law_1128 : decode code 1128 = .ok (.iconst 1, 1) := dq daL_law_720 (i := 8) rfl
theorem dL_law_1129 : decode code 1129 = .ok (.iadd, 1) := dq daL_law_720 (i := 9) rfl
theorem dL_law_1130 : decode code 1130 = .ok (.iaload, 1) := dq daL_law_720 (i := 10) rfl
theorem dL_law_1131 : decode code 1131 = .ok (.invokevirtual 170, 3) := dq daL_law_720 (i := 11) rfl
theorem dL_law_1134 : decode code 1134 = .ok (.aload_n 2, 1) := dq daL_law_720 (i := 12) rfl
theorem dL_law_1135 : decode code 1135 = .ok (.aload_n 0, 1) := dq daL_law_720 (i := 13) rfl
theorem dL_law_1136 : decode code 1136 = .ok (.iload_n 3, 1) := dq daL_law_720 (i := 14) rfl
theorem dL_law_1137 : decode code 1137 = .ok (.iconst 1, 1) := dq daL_law_720 (i := 15) rfl
theorem dL_law_1138 : decode code 1138 = .ok (.iadd, 1) := dq daL_law_720 (i := 16) rfl
theorem dL_law_1139 : decode code 1139 = .ok (.iaload, 1) := dq daL_law_720 (i := 17) rfl
theorem dL_law_1140 : decode code 1140 = .ok (.invokevirtual 173, 3) := dq daL_law_720 (i := 18) rfl
theorem dL_law_1143 : decode code 1143 = .ok (.if_icmp .eq 5, 3) := dq daL_law_720 (i := 19) rfl
theorem dL_law_1146 : decode code 1146 = .ok (.iconst 0, 1) := dq daL_law_720 (i := 20) rfl
theorem dL_law_1147 : decode code 1147 = .ok (.ireturn, 1) := dq daL_law_720 (i := 21) rfl
theorem dL_law_1148 : decode code 1148 = .ok (.iinc 3 5, 3) := dq daL_law_720 (i := 22) rfl
theorem dL_law_1151 : decode code 1151 = .ok (.goto (-1133), 3) := dq daL_law_720 (i := 23) rfl
theorem dL_law_1154 : decode code 1154 = .ok (.iconst 1, 1) := dq daL_law_720 (i := 24) rfl
theorem dL_law_1155 : decode code 1155 = .ok (.ireturn, 1) := dq daL_law_720 (i := 25) rfl
