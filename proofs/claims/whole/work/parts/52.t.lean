/-! X9_wrongFigures -/
set_option maxHeartbeats 4000000 in
set_option maxRecDepth 100000 in
theorem tK_X9_wrongFigures_12_44 {l : Launch} {G : va_G} {cI cJ cD cH : ClassId} {h_t : Nat} {h_t_toldPowers : Nat} {h_t_powerPlaces : Nat} {h_t_toldTree : Nat} {h_t_splitPlaces : Nat} {h_t_powers : Nat} {h_t_tree : Nat} {h_t_ahead : Nat} {h_t_behind : Nat} {h_t_before : Nat} {h_t_rows : Nat} {h_t_met : Nat} {h_t_metSizes : Nat} {h_t_chosen : Nat} {h_t_tape : Nat} {h_t_layers : Nat} {h_t_paper : Nat} {h_t_held : Nat} {h_t_numbers : Nat} {h_t_sizes : Nat} {h_t_heldLeaves : Nat} {h_t_items : Nat} {h_t_kept : Nat} {t_genus : Int32} {t_marks : Int32} {t_leaves : Int32} {t_splits : Int32} {t_done : Int32} {t_undone : Int32} {t_metMany : Int32} {t_treesSeen : Int32} {t_taped : Int32} {t_place : Int32} {t_isWrong : Int32} {t_toldGenus : Int32} {t_toldMarks : Int32} {t_isTree : Int32} {t_toldLeaves : Int32} {t_leavesPlace : Int32} {t_toldSplits : Int32} {t_isWhy : Int32} {t_papered : Int32} {t_isKept : Int32} {a_t_toldPowers : Nat → Int32} {a_t_powerPlaces : Nat → Int32} {a_t_toldTree : Nat → Int32} {a_t_splitPlaces : Nat → Int32} {r0 : Int32} {p : Program} {e : Env} {s : State} {m : MethodId} {below : List Frame} {meth : Method} {c : Code} {A : Nat → Prop} (hx : p.tables.exec = Jvm.exec) (hb : c.code = cX9_wrongFigures) (hr : meth.sig.returnType = (some .int)) (hml : c.maxLocals = 3) (hts : ∀ w ∈ wsX9_wrongFigures, w.before ([.ref h_t] : List Value).toArray s = true) (hown : s.vm.findClass RX9 = some m.cls) (hlocks : meth.locks = false) (hK : va_K G vwCl (k_T cI cJ cD cH) s) (hA : ∀ q : Nat, s.heap.size ≤ q → A q) : ∀ (H : Heap) (locs : List Loc) (ls : Array Slot), va_P G vwCl [(h_t, .inr (8, [.int t_genus, .int t_marks, .ref h_t_powers, .int t_leaves, .int t_splits, .ref h_t_tree, .ref h_t_ahead, .ref h_t_behind, .ref h_t_before, .int t_done, .int t_undone, .ref h_t_rows, .ref h_t_met, .ref h_t_metSizes, .int t_metMany, .int t_treesSeen, .ref h_t_chosen, .ref h_t_tape, .int t_taped, .int t_place, .int t_isWrong, .int t_toldGenus, .int t_toldMarks, .ref h_t_toldPowers, .ref h_t_powerPlaces, .int t_isTree, .int t_toldLeaves, .int t_leavesPlace, .int t_toldSplits, .ref h_t_toldTree, .ref h_t_splitPlaces, .ref h_t_layers, .int t_isWhy, .ref h_t_paper, .int t_papered, .ref h_t_held, .ref h_t_numbers, .ref h_t_sizes, .ref h_t_heldLeaves, .ref h_t_items, .ref h_t_kept, .int t_isKept])), (h_t_toldPowers, .inl (cI, 8, .inl a_t_toldPowers)), (h_t_powerPlaces, .inl (cI, 8, .inl a_t_powerPlaces)), (h_t_toldTree, .inl (cI, 3, .inl a_t_toldTree)), (h_t_splitPlaces, .inl (cI, 3, .inl a_t_splitPlaces))] H → va_D A [(h_t, .inr (8, [.int t_genus, .int t_marks, .ref h_t_powers, .int t_leaves, .int t_splits, .ref h_t_tree, .ref h_t_ahead, .ref h_t_behind, .ref h_t_before, .int t_done, .int t_undone, .ref h_t_rows, .ref h_t_met, .ref h_t_metSizes, .int t_metMany, .int t_treesSeen, .ref h_t_chosen, .ref h_t_tape, .int t_taped, .int t_place, .int t_isWrong, .int t_toldGenus, .int t_toldMarks, .ref h_t_toldPowers, .ref h_t_powerPlaces, .int t_isTree, .int t_toldLeaves, .int t_leavesPlace, .int t_toldSplits, .ref h_t_toldTree, .ref h_t_splitPlaces, .ref h_t_layers, .int t_isWhy, .ref h_t_paper, .int t_papered, .ref h_t_held, .ref h_t_numbers, .ref h_t_sizes, .ref h_t_heldLeaves, .ref h_t_items, .ref h_t_kept, .int t_isKept])), (h_t_toldPowers, .inl (cI, 8, .inl a_t_toldPowers)), (h_t_powerPlaces, .inl (cI, 8, .inl a_t_powerPlaces)), (h_t_toldTree, .inl (cI, 3, .inl a_t_toldTree)), (h_t_splitPlaces, .inl (cI, 3, .inl a_t_splitPlaces))] → va_S A s.heap H locs → lv_has ls 3 [(0, .ref h_t)] → K_X9_wrongFigures_12_44 t_isTree t_toldLeaves t_leavesPlace t_toldSplits a_t_toldTree a_t_splitPlaces = some r0 → W p l e (headSpec wsX9_wrongFigures ({ frames := 2, cells := 0, slots := 0, locals := 46 })).room s m ([.ref h_t] : List Value).toArray below meth c H locs 0 0 (MQ below (va_Qi (fun r (_ : Unit) => r = r0 ∧ True) (fun _ t => va_P G vwCl [(h_t, .inr (8, [.int t_genus, .int t_marks, .ref h_t_powers, .int t_leaves, .int t_splits, .ref h_t_tree, .ref h_t_ahead, .ref h_t_behind, .ref h_t_before, .int t_done, .int t_undone, .ref h_t_rows, .ref h_t_met, .ref h_t_metSizes, .int t_metMany, .int t_treesSeen, .ref h_t_chosen, .ref h_t_tape, .int t_taped, .int t_place, .int t_isWrong, .int t_toldGenus, .int t_toldMarks, .ref h_t_toldPowers, .ref h_t_powerPlaces, .int t_isTree, .int t_toldLeaves, .int t_leavesPlace, .int t_toldSplits, .ref h_t_toldTree, .ref h_t_splitPlaces, .ref h_t_layers, .int t_isWhy, .ref h_t_paper, .int t_papered, .ref h_t_held, .ref h_t_numbers, .ref h_t_sizes, .ref h_t_heldLeaves, .ref h_t_items, .ref h_t_kept, .int t_isKept])), (h_t_toldPowers, .inl (cI, 8, .inl a_t_toldPowers)), (h_t_powerPlaces, .inl (cI, 8, .inl a_t_powerPlaces)), (h_t_toldTree, .inl (cI, 3, .inl a_t_toldTree)), (h_t_splitPlaces, .inl (cI, 3, .inl a_t_splitPlaces))] t.heap) A) ([.ref h_t] : List Value).toArray s 0 0 A) (F0 m 44 ls []) := by
  have hta : ∀ w ∈ wA, w.before ([.ref h_t] : List Value).toArray s = true := hta_of hts
  have hinX9 : ∀ w ∈ wsX90, w ∈ wsX9_wrongFigures := hin_of in_X9
  intro  H locs ls hP hD hS hl h
  unfold K_X9_wrongFigures_12_44 at h
  refine lv_aload_n hx hb dX9_wrongFigures_44 rfl (lv_at hl 0 rfl) ?_
  refine va_get (D := G) (ci := 8) (v := .int t_isTree) (C := RX9) (T := TX9) (N := 42) hx hb hts hinX9 hown hK hP 0 rfl rfl 25 (by decide) (hta _ mw_824) (fun _ h9 => h9) rfl dX9_wrongFigures_45 ?_
  refine lv_if_ne (tgt := 54) hx hb dX9_wrongFigures_48 (by decide) (fun c2 => ?_) (fun c2 => ?_)
  rotate_left
  · have h := it_p h c2
    refine lv_bipush (v := (-2 : Int32)) hx hb dX9_wrongFigures_51 (by decide) ?_
    have h9 := Option.some.inj h
    have e9 : (-2 : Int32) = r0 := congrArg (fun z9 => z9) h9
    rw [← e9]
    exact k_iret hx hb hr hlocks hP hS rfl dX9_wrongFigures_53
  have h := it_n h c2
  refine lv_aload_n hx hb dX9_wrongFigures_54 rfl (lv_at hl 0 rfl) ?_
  refine va_get (D := G) (ci := 8) (v := .int t_toldLeaves) (C := RX9) (T := TX9) (N := 42) hx hb hts hinX9 hown hK hP 0 rfl rfl 26 (by decide) (hta _ mw_827) (fun _ h9 => h9) rfl dX9_wrongFigures_55 ?_
  refine lv_i2l (v := t_toldLeaves.toInt64) hx hb dX9_wrongFigures_58 (by first | rfl | decide) ?_
  refine lv_ldc2 (v := (3 : Int64)) hx hb hown (hta _ mw_673) dX9_wrongFigures_59 ?_
  refine lv_ldc2 (v := (6 : Int64)) hx hb hown (hta _ mw_748) dX9_wrongFigures_62 ?_
  obtain ⟨x3, hx3, h⟩ := bd_e h
  try dsimp only at h
  refine k_SiU (n := 3) (As := [.long t_toldLeaves.toInt64, .long (3 : Int64), .long (6 : Int64)]) (rest := []) hx hb hml hown hts (c_X9_in l G cI cJ cD cH H.size t_toldLeaves.toInt64 (3 : Int64) (6 : Int64) x3 hx3) gX9_wrongFigures_X9_in rfl rfl rfl (by decide +kernel) ⟨by first | exact Nat.le_of_ble_eq_true rfl | (simp only [headSpec]; omega), by first | exact Nat.le_of_ble_eq_true rfl | (simp only [headSpec]; omega)⟩ hK hP hD hS hA [] (by decide) rfl rfl rfl hl.1 (Nat.le_of_ble_eq_true rfl) dX9_wrongFigures_65 ⟨Nat.zero_le _, Nat.zero_le _⟩ (fun hp3 H locs hP hS => ?_)
  refine lv_if_ne (tgt := 76) hx hb dX9_wrongFigures_68 (by decide) (fun c4 => ?_) (fun c4 => ?_)
  rotate_left
  · have h := it_p h c4
    refine lv_aload_n hx hb dX9_wrongFigures_71 rfl (lv_at hl 0 rfl) ?_
    refine va_get (D := G) (ci := 8) (v := .int t_leavesPlace) (C := RX9) (T := TX9) (N := 42) hx hb hts hinX9 hown hK hP 0 rfl rfl 27 (by decide) (hta _ mw_826) (fun _ h9 => h9) rfl dX9_wrongFigures_72 ?_
    have h9 := Option.some.inj h
    have e9 : t_leavesPlace = r0 := congrArg (fun z9 => z9) h9
    rw [← e9]
    exact k_iret hx hb hr hlocks hP hS rfl dX9_wrongFigures_75
  have h := it_n h c4
  refine lv_iconst (v := (0 : Int32)) hx hb dX9_wrongFigures_76 (by decide) ?_
  refine lv_istore_n (lv' := [(1, .int (0 : Int32)), (0, .ref h_t)]) hx hb dX9_wrongFigures_77 rfl hl (by decide) rfl (fun ls hl => ?_)
  have hK_X9_wrongFigures_78_168 : ∀ (H : Heap) (locs : List Loc) (ls : Array Slot), va_P G vwCl [(h_t, .inr (8, [.int t_genus, .int t_marks, .ref h_t_powers, .int t_leaves, .int t_splits, .ref h_t_tree, .ref h_t_ahead, .ref h_t_behind, .ref h_t_before, .int t_done, .int t_undone, .ref h_t_rows, .ref h_t_met, .ref h_t_metSizes, .int t_metMany, .int t_treesSeen, .ref h_t_chosen, .ref h_t_tape, .int t_taped, .int t_place, .int t_isWrong, .int t_toldGenus, .int t_toldMarks, .ref h_t_toldPowers, .ref h_t_powerPlaces, .int t_isTree, .int t_toldLeaves, .int t_leavesPlace, .int t_toldSplits, .ref h_t_toldTree, .ref h_t_splitPlaces, .ref h_t_layers, .int t_isWhy, .ref h_t_paper, .int t_papered, .ref h_t_held, .ref h_t_numbers, .ref h_t_sizes, .ref h_t_heldLeaves, .ref h_t_items, .ref h_t_kept, .int t_isKept])), (h_t_toldPowers, .inl (cI, 8, .inl a_t_toldPowers)), (h_t_powerPlaces, .inl (cI, 8, .inl a_t_powerPlaces)), (h_t_toldTree, .inl (cI, 3, .inl a_t_toldTree)), (h_t_splitPlaces, .inl (cI, 3, .inl a_t_splitPlaces))] H → va_D A [(h_t, .inr (8, [.int t_genus, .int t_marks, .ref h_t_powers, .int t_leaves, .int t_splits, .ref h_t_tree, .ref h_t_ahead, .ref h_t_behind, .ref h_t_before, .int t_done, .int t_undone, .ref h_t_rows, .ref h_t_met, .ref h_t_metSizes, .int t_metMany, .int t_treesSeen, .ref h_t_chosen, .ref h_t_tape, .int t_taped, .int t_place, .int t_isWrong, .int t_toldGenus, .int t_toldMarks, .ref h_t_toldPowers, .ref h_t_powerPlaces, .int t_isTree, .int t_toldLeaves, .int t_leavesPlace, .int t_toldSplits, .ref h_t_toldTree, .ref h_t_splitPlaces, .ref h_t_layers, .int t_isWhy, .ref h_t_paper, .int t_papered, .ref h_t_held, .ref h_t_numbers, .ref h_t_sizes, .ref h_t_heldLeaves, .ref h_t_items, .ref h_t_kept, .int t_isKept])), (h_t_toldPowers, .inl (cI, 8, .inl a_t_toldPowers)), (h_t_powerPlaces, .inl (cI, 8, .inl a_t_powerPlaces)), (h_t_toldTree, .inl (cI, 3, .inl a_t_toldTree)), (h_t_splitPlaces, .inl (cI, 3, .inl a_t_splitPlaces))] → va_S A s.heap H locs → lv_has ls 3 [] → K_X9_wrongFigures_78_168 = some r0 → W p l e (headSpec wsX9_wrongFigures ({ frames := 2, cells := 0, slots := 0, locals := 46 })).room s m ([.ref h_t] : List Value).toArray below meth c H locs 0 0 (MQ below (va_Qi (fun r (_ : Unit) => r = r0 ∧ True) (fun _ t => va_P G vwCl [(h_t, .inr (8, [.int t_genus, .int t_marks, .ref h_t_powers, .int t_leaves, .int t_splits, .ref h_t_tree, .ref h_t_ahead, .ref h_t_behind, .ref h_t_before, .int t_done, .int t_undone, .ref h_t_rows, .ref h_t_met, .ref h_t_metSizes, .int t_metMany, .int t_treesSeen, .ref h_t_chosen, .ref h_t_tape, .int t_taped, .int t_place, .int t_isWrong, .int t_toldGenus, .int t_toldMarks, .ref h_t_toldPowers, .ref h_t_powerPlaces, .int t_isTree, .int t_toldLeaves, .int t_leavesPlace, .int t_toldSplits, .ref h_t_toldTree, .ref h_t_splitPlaces, .ref h_t_layers, .int t_isWhy, .ref h_t_paper, .int t_papered, .ref h_t_held, .ref h_t_numbers, .ref h_t_sizes, .ref h_t_heldLeaves, .ref h_t_items, .ref h_t_kept, .int t_isKept])), (h_t_toldPowers, .inl (cI, 8, .inl a_t_toldPowers)), (h_t_powerPlaces, .inl (cI, 8, .inl a_t_powerPlaces)), (h_t_toldTree, .inl (cI, 3, .inl a_t_toldTree)), (h_t_splitPlaces, .inl (cI, 3, .inl a_t_splitPlaces))] t.heap) A) ([.ref h_t] : List Value).toArray s 0 0 A) (F0 m 168 ls []) := by
    intro  H locs ls hP hD hS hl h
    unfold K_X9_wrongFigures_78_168 at h
    refine lv_bipush (v := (-2 : Int32)) hx hb dX9_wrongFigures_168 (by decide) ?_
    have h9 := Option.some.inj h
    have e9 : (-2 : Int32) = r0 := congrArg (fun z9 => z9) h9
    rw [← e9]
    exact k_iret hx hb hr hlocks hP hS rfl dX9_wrongFigures_170
  have hL78 : ∀ (n78 : Nat) (vL78_0 : Int32) (H : Heap) (locs : List Loc) (ls : Array Slot), va_P G vwCl [(h_t, .inr (8, [.int t_genus, .int t_marks, .ref h_t_powers, .int t_leaves, .int t_splits, .ref h_t_tree, .ref h_t_ahead, .ref h_t_behind, .ref h_t_before, .int t_done, .int t_undone, .ref h_t_rows, .ref h_t_met, .ref h_t_metSizes, .int t_metMany, .int t_treesSeen, .ref h_t_chosen, .ref h_t_tape, .int t_taped, .int t_place, .int t_isWrong, .int t_toldGenus, .int t_toldMarks, .ref h_t_toldPowers, .ref h_t_powerPlaces, .int t_isTree, .int t_toldLeaves, .int t_leavesPlace, .int t_toldSplits, .ref h_t_toldTree, .ref h_t_splitPlaces, .ref h_t_layers, .int t_isWhy, .ref h_t_paper, .int t_papered, .ref h_t_held, .ref h_t_numbers, .ref h_t_sizes, .ref h_t_heldLeaves, .ref h_t_items, .ref h_t_kept, .int t_isKept])), (h_t_toldPowers, .inl (cI, 8, .inl a_t_toldPowers)), (h_t_powerPlaces, .inl (cI, 8, .inl a_t_powerPlaces)), (h_t_toldTree, .inl (cI, 3, .inl a_t_toldTree)), (h_t_splitPlaces, .inl (cI, 3, .inl a_t_splitPlaces))] H → va_D A [(h_t, .inr (8, [.int t_genus, .int t_marks, .ref h_t_powers, .int t_leaves, .int t_splits, .ref h_t_tree, .ref h_t_ahead, .ref h_t_behind, .ref h_t_before, .int t_done, .int t_undone, .ref h_t_rows, .ref h_t_met, .ref h_t_metSizes, .int t_metMany, .int t_treesSeen, .ref h_t_chosen, .ref h_t_tape, .int t_taped, .int t_place, .int t_isWrong, .int t_toldGenus, .int t_toldMarks, .ref h_t_toldPowers, .ref h_t_powerPlaces, .int t_isTree, .int t_toldLeaves, .int t_leavesPlace, .int t_toldSplits, .ref h_t_toldTree, .ref h_t_splitPlaces, .ref h_t_layers, .int t_isWhy, .ref h_t_paper, .int t_papered, .ref h_t_held, .ref h_t_numbers, .ref h_t_sizes, .ref h_t_heldLeaves, .ref h_t_items, .ref h_t_kept, .int t_isKept])), (h_t_toldPowers, .inl (cI, 8, .inl a_t_toldPowers)), (h_t_powerPlaces, .inl (cI, 8, .inl a_t_powerPlaces)), (h_t_toldTree, .inl (cI, 3, .inl a_t_toldTree)), (h_t_splitPlaces, .inl (cI, 3, .inl a_t_splitPlaces))] → va_S A s.heap H locs → lv_has ls 3 [(0, .ref h_t), (1, .int vL78_0)] → wq1 (B_X9_wrongFigures_78 t_toldLeaves t_toldSplits a_t_toldTree a_t_splitPlaces K_X9_wrongFigures_78_168) n78 vL78_0 = some r0 → W p l e (headSpec wsX9_wrongFigures ({ frames := 2, cells := 0, slots := 0, locals := 46 })).room s m ([.ref h_t] : List Value).toArray below meth c H locs 0 0 (MQ below (va_Qi (fun r (_ : Unit) => r = r0 ∧ True) (fun _ t => va_P G vwCl [(h_t, .inr (8, [.int t_genus, .int t_marks, .ref h_t_powers, .int t_leaves, .int t_splits, .ref h_t_tree, .ref h_t_ahead, .ref h_t_behind, .ref h_t_before, .int t_done, .int t_undone, .ref h_t_rows, .ref h_t_met, .ref h_t_metSizes, .int t_metMany, .int t_treesSeen, .ref h_t_chosen, .ref h_t_tape, .int t_taped, .int t_place, .int t_isWrong, .int t_toldGenus, .int t_toldMarks, .ref h_t_toldPowers, .ref h_t_powerPlaces, .int t_isTree, .int t_toldLeaves, .int t_leavesPlace, .int t_toldSplits, .ref h_t_toldTree, .ref h_t_splitPlaces, .ref h_t_layers, .int t_isWhy, .ref h_t_paper, .int t_papered, .ref h_t_held, .ref h_t_numbers, .ref h_t_sizes, .ref h_t_heldLeaves, .ref h_t_items, .ref h_t_kept, .int t_isKept])), (h_t_toldPowers, .inl (cI, 8, .inl a_t_toldPowers)), (h_t_powerPlaces, .inl (cI, 8, .inl a_t_powerPlaces)), (h_t_toldTree, .inl (cI, 3, .inl a_t_toldTree)), (h_t_splitPlaces, .inl (cI, 3, .inl a_t_splitPlaces))] t.heap) A) ([.ref h_t] : List Value).toArray s 0 0 A) (F0 m 78 ls []) := by
    intro n78
    induction n78 with
    | zero => intro vL78_0 H locs ls hP hD hS hl h; exact wq1_0 h
    | succ n78 ih78 =>
      intro vL78_0 H locs ls hP hD hS hl h
      have h := wq1_s h
      unfold B_X9_wrongFigures_78 at h
      refine lv_iload_n hx hb dX9_wrongFigures_78 rfl (lv_at hl 1 rfl) ?_
      refine lv_aload_n hx hb dX9_wrongFigures_79 rfl (lv_at hl 0 rfl) ?_
      refine va_get (D := G) (ci := 8) (v := .int t_toldSplits) (C := RX9) (T := TX9) (N := 42) hx hb hts hinX9 hown hK hP 0 rfl rfl 28 (by decide) (hta _ mw_822) (fun _ h9 => h9) rfl dX9_wrongFigures_80 ?_
      refine lv_icmp_ge (tgt := 168) hx hb dX9_wrongFigures_83 (by decide) (fun c5 => ?_) (fun c5 => ?_)
      · have h := it_p h c5
        exact hK_X9_wrongFigures_78_168  _ _ _ hP hD hS (lv_sub hl [] rfl) h
      have h := it_n h c5
      refine lv_aload_n hx hb dX9_wrongFigures_86 rfl (lv_at hl 0 rfl) ?_
      refine va_get (D := G) (ci := 8) (v := .ref h_t_toldTree) (C := RX9) (T := TX9) (N := 42) hx hb hts hinX9 hown hK hP 0 rfl rfl 29 (by decide) (hta _ mw_619) (fun _ h9 => h9) rfl dX9_wrongFigures_87 ?_
      refine lv_iload_n hx hb dX9_wrongFigures_90 rfl (lv_at hl 1 rfl) ?_
      obtain ⟨hn6, h⟩ := ck_e h
      refine va_iald hx hb hK hP 3 0 rfl rfl hn6 dX9_wrongFigures_91 ?_
      refine lv_aload_n hx hb dX9_wrongFigures_92 rfl (lv_at hl 0 rfl) ?_
      refine va_get (D := G) (ci := 8) (v := .int t_toldLeaves) (C := RX9) (T := TX9) (N := 42) hx hb hts hinX9 hown hK hP 0 rfl rfl 26 (by decide) (hta _ mw_827) (fun _ h9 => h9) rfl dX9_wrongFigures_93 ?_
      obtain ⟨x7, hx7, h⟩ := bd_e h
      try dsimp only at h
      refine k_SiU (n := 2) (As := [.int (a_t_toldTree vL78_0.toNatClampNeg), .int t_toldLeaves]) (rest := []) hx hb hml hown hts (c_X9_isSplit l G cI cJ cD cH H.size (a_t_toldTree vL78_0.toNatClampNeg) t_toldLeaves x7 hx7) gX9_wrongFigures_X9_isSplit rfl rfl rfl (by decide +kernel) ⟨by first | exact Nat.le_of_ble_eq_true rfl | (simp only [headSpec]; omega), by first | exact Nat.le_of_ble_eq_true rfl | (simp only [headSpec]; omega)⟩ hK hP hD hS hA [] (by decide) rfl rfl rfl hl.1 (Nat.le_of_ble_eq_true rfl) dX9_wrongFigures_96 ⟨Nat.zero_le _, Nat.zero_le _⟩ (fun hp7 H locs hP hS => ?_)
      refine lv_if_ne (tgt := 109) hx hb dX9_wrongFigures_99 (by decide) (fun c8 => ?_) (fun c8 => ?_)
      rotate_left
      · have h := it_p h c8
        refine lv_aload_n hx hb dX9_wrongFigures_102 rfl (lv_at hl 0 rfl) ?_
        refine va_get (D := G) (ci := 8) (v := .ref h_t_splitPlaces) (C := RX9) (T := TX9) (N := 42) hx hb hts hinX9 hown hK hP 0 rfl rfl 30 (by decide) (hta _ mw_620) (fun _ h9 => h9) rfl dX9_wrongFigures_103 ?_
        refine lv_iload_n hx hb dX9_wrongFigures_106 rfl (lv_at hl 1 rfl) ?_
        obtain ⟨hn19, h⟩ := ck_e h
        refine va_iald hx hb hK hP 4 0 rfl rfl hn19 dX9_wrongFigures_107 ?_
        have h9 := Option.some.inj h
        have e9 : (a_t_splitPlaces vL78_0.toNatClampNeg) = r0 := congrArg (fun z9 => z9) h9
        rw [← e9]
        exact k_iret hx hb hr hlocks hP hS rfl dX9_wrongFigures_108
      have h := it_n h c8
      refine lv_iconst (v := (0 : Int32)) hx hb dX9_wrongFigures_109 (by decide) ?_
      refine lv_istore_n (lv' := [(2, .int (0 : Int32)), (0, .ref h_t), (1, .int vL78_0)]) hx hb dX9_wrongFigures_110 rfl hl (by decide) rfl (fun ls hl => ?_)
      have hK_X9_wrongFigures_111_162 : ∀ (H : Heap) (locs : List Loc) (ls : Array Slot), va_P G vwCl [(h_t, .inr (8, [.int t_genus, .int t_marks, .ref h_t_powers, .int t_leaves, .int t_splits, .ref h_t_tree, .ref h_t_ahead, .ref h_t_behind, .ref h_t_before, .int t_done, .int t_undone, .ref h_t_rows, .ref h_t_met, .ref h_t_metSizes, .int t_metMany, .int t_treesSeen, .ref h_t_chosen, .ref h_t_tape, .int t_taped, .int t_place, .int t_isWrong, .int t_toldGenus, .int t_toldMarks, .ref h_t_toldPowers, .ref h_t_powerPlaces, .int t_isTree, .int t_toldLeaves, .int t_leavesPlace, .int t_toldSplits, .ref h_t_toldTree, .ref h_t_splitPlaces, .ref h_t_layers, .int t_isWhy, .ref h_t_paper, .int t_papered, .ref h_t_held, .ref h_t_numbers, .ref h_t_sizes, .ref h_t_heldLeaves, .ref h_t_items, .ref h_t_kept, .int t_isKept])), (h_t_toldPowers, .inl (cI, 8, .inl a_t_toldPowers)), (h_t_powerPlaces, .inl (cI, 8, .inl a_t_powerPlaces)), (h_t_toldTree, .inl (cI, 3, .inl a_t_toldTree)), (h_t_splitPlaces, .inl (cI, 3, .inl a_t_splitPlaces))] H → va_D A [(h_t, .inr (8, [.int t_genus, .int t_marks, .ref h_t_powers, .int t_leaves, .int t_splits, .ref h_t_tree, .ref h_t_ahead, .ref h_t_behind, .ref h_t_before, .int t_done, .int t_undone, .ref h_t_rows, .ref h_t_met, .ref h_t_metSizes, .int t_metMany, .int t_treesSeen, .ref h_t_chosen, .ref h_t_tape, .int t_taped, .int t_place, .int t_isWrong, .int t_toldGenus, .int t_toldMarks, .ref h_t_toldPowers, .ref h_t_powerPlaces, .int t_isTree, .int t_toldLeaves, .int t_leavesPlace, .int t_toldSplits, .ref h_t_toldTree, .ref h_t_splitPlaces, .ref h_t_layers, .int t_isWhy, .ref h_t_paper, .int t_papered, .ref h_t_held, .ref h_t_numbers, .ref h_t_sizes, .ref h_t_heldLeaves, .ref h_t_items, .ref h_t_kept, .int t_isKept])), (h_t_toldPowers, .inl (cI, 8, .inl a_t_toldPowers)), (h_t_powerPlaces, .inl (cI, 8, .inl a_t_powerPlaces)), (h_t_toldTree, .inl (cI, 3, .inl a_t_toldTree)), (h_t_splitPlaces, .inl (cI, 3, .inl a_t_splitPlaces))] → va_S A s.heap H locs → lv_has ls 3 [(0, .ref h_t), (1, .int vL78_0)] → K_X9_wrongFigures_111_162 vL78_0 (wq1 (B_X9_wrongFigures_78 t_toldLeaves t_toldSplits a_t_toldTree a_t_splitPlaces K_X9_wrongFigures_78_168) n78) = some r0 → W p l e (headSpec wsX9_wrongFigures ({ frames := 2, cells := 0, slots := 0, locals := 46 })).room s m ([.ref h_t] : List Value).toArray below meth c H locs 0 0 (MQ below (va_Qi (fun r (_ : Unit) => r = r0 ∧ True) (fun _ t => va_P G vwCl [(h_t, .inr (8, [.int t_genus, .int t_marks, .ref h_t_powers, .int t_leaves, .int t_splits, .ref h_t_tree, .ref h_t_ahead, .ref h_t_behind, .ref h_t_before, .int t_done, .int t_undone, .ref h_t_rows, .ref h_t_met, .ref h_t_metSizes, .int t_metMany, .int t_treesSeen, .ref h_t_chosen, .ref h_t_tape, .int t_taped, .int t_place, .int t_isWrong, .int t_toldGenus, .int t_toldMarks, .ref h_t_toldPowers, .ref h_t_powerPlaces, .int t_isTree, .int t_toldLeaves, .int t_leavesPlace, .int t_toldSplits, .ref h_t_toldTree, .ref h_t_splitPlaces, .ref h_t_layers, .int t_isWhy, .ref h_t_paper, .int t_papered, .ref h_t_held, .ref h_t_numbers, .ref h_t_sizes, .ref h_t_heldLeaves, .ref h_t_items, .ref h_t_kept, .int t_isKept])), (h_t_toldPowers, .inl (cI, 8, .inl a_t_toldPowers)), (h_t_powerPlaces, .inl (cI, 8, .inl a_t_powerPlaces)), (h_t_toldTree, .inl (cI, 3, .inl a_t_toldTree)), (h_t_splitPlaces, .inl (cI, 3, .inl a_t_splitPlaces))] t.heap) A) ([.ref h_t] : List Value).toArray s 0 0 A) (F0 m 162 ls []) := by
        intro  H locs ls hP hD hS hl h
        unfold K_X9_wrongFigures_111_162 at h
        refine lv_iinc (v := (vL78_0 + (1 : Int32))) (lv' := [(1, .int (vL78_0 + (1 : Int32))), (0, .ref h_t)]) hx hb dX9_wrongFigures_162 hl (k := 1) rfl (by first | rfl | decide) (by decide) rfl (fun ls hl => ?_)
        refine lv_goto (tgt := 78) hx hb dX9_wrongFigures_165 (by decide) ?_
        exact ih78 (vL78_0 + (1 : Int32)) _ _ _ hP hD hS (lv_sub hl [1, 0] rfl) h
      have hL111 : ∀ (n111 : Nat) (vL111_0 : Int32) (H : Heap) (locs : List Loc) (ls : Array Slot), va_P G vwCl [(h_t, .inr (8, [.int t_genus, .int t_marks, .ref h_t_powers, .int t_leaves, .int t_splits, .ref h_t_tree, .ref h_t_ahead, .ref h_t_behind, .ref h_t_before, .int t_done, .int t_undone, .ref h_t_rows, .ref h_t_met, .ref h_t_metSizes, .int t_metMany, .int t_treesSeen, .ref h_t_chosen, .ref h_t_tape, .int t_taped, .int t_place, .int t_isWrong, .int t_toldGenus, .int t_toldMarks, .ref h_t_toldPowers, .ref h_t_powerPlaces, .int t_isTree, .int t_toldLeaves, .int t_leavesPlace, .int t_toldSplits, .ref h_t_toldTree, .ref h_t_splitPlaces, .ref h_t_layers, .int t_isWhy, .ref h_t_paper, .int t_papered, .ref h_t_held, .ref h_t_numbers, .ref h_t_sizes, .ref h_t_heldLeaves, .ref h_t_items, .ref h_t_kept, .int t_isKept])), (h_t_toldPowers, .inl (cI, 8, .inl a_t_toldPowers)), (h_t_powerPlaces, .inl (cI, 8, .inl a_t_powerPlaces)), (h_t_toldTree, .inl (cI, 3, .inl a_t_toldTree)), (h_t_splitPlaces, .inl (cI, 3, .inl a_t_splitPlaces))] H → va_D A [(h_t, .inr (8, [.int t_genus, .int t_marks, .ref h_t_powers, .int t_leaves, .int t_splits, .ref h_t_tree, .ref h_t_ahead, .ref h_t_behind, .ref h_t_before, .int t_done, .int t_undone, .ref h_t_rows, .ref h_t_met, .ref h_t_metSizes, .int t_metMany, .int t_treesSeen, .ref h_t_chosen, .ref h_t_tape, .int t_taped, .int t_place, .int t_isWrong, .int t_toldGenus, .int t_toldMarks, .ref h_t_toldPowers, .ref h_t_powerPlaces, .int t_isTree, .int t_toldLeaves, .int t_leavesPlace, .int t_toldSplits, .ref h_t_toldTree, .ref h_t_splitPlaces, .ref h_t_layers, .int t_isWhy, .ref h_t_paper, .int t_papered, .ref h_t_held, .ref h_t_numbers, .ref h_t_sizes, .ref h_t_heldLeaves, .ref h_t_items, .ref h_t_kept, .int t_isKept])), (h_t_toldPowers, .inl (cI, 8, .inl a_t_toldPowers)), (h_t_powerPlaces, .inl (cI, 8, .inl a_t_powerPlaces)), (h_t_toldTree, .inl (cI, 3, .inl a_t_toldTree)), (h_t_splitPlaces, .inl (cI, 3, .inl a_t_splitPlaces))] → va_S A s.heap H locs → lv_has ls 3 [(0, .ref h_t), (1, .int vL78_0), (2, .int vL111_0)] → wq1 (B_X9_wrongFigures_111 a_t_toldTree a_t_splitPlaces vL78_0 (K_X9_wrongFigures_111_162 vL78_0 (wq1 (B_X9_wrongFigures_78 t_toldLeaves t_toldSplits a_t_toldTree a_t_splitPlaces K_X9_wrongFigures_78_168) n78))) n111 vL111_0 = some r0 → W p l e (headSpec wsX9_wrongFigures ({ frames := 2, cells := 0, slots := 0, locals := 46 })).room s m ([.ref h_t] : List Value).toArray below meth c H locs 0 0 (MQ below (va_Qi (fun r (_ : Unit) => r = r0 ∧ True) (fun _ t => va_P G vwCl [(h_t, .inr (8, [.int t_genus, .int t_marks, .ref h_t_powers, .int t_leaves, .int t_splits, .ref h_t_tree, .ref h_t_ahead, .ref h_t_behind, .ref h_t_before, .int t_done, .int t_undone, .ref h_t_rows, .ref h_t_met, .ref h_t_metSizes, .int t_metMany, .int t_treesSeen, .ref h_t_chosen, .ref h_t_tape, .int t_taped, .int t_place, .int t_isWrong, .int t_toldGenus, .int t_toldMarks, .ref h_t_toldPowers, .ref h_t_powerPlaces, .int t_isTree, .int t_toldLeaves, .int t_leavesPlace, .int t_toldSplits, .ref h_t_toldTree, .ref h_t_splitPlaces, .ref h_t_layers, .int t_isWhy, .ref h_t_paper, .int t_papered, .ref h_t_held, .ref h_t_numbers, .ref h_t_sizes, .ref h_t_heldLeaves, .ref h_t_items, .ref h_t_kept, .int t_isKept])), (h_t_toldPowers, .inl (cI, 8, .inl a_t_toldPowers)), (h_t_powerPlaces, .inl (cI, 8, .inl a_t_powerPlaces)), (h_t_toldTree, .inl (cI, 3, .inl a_t_toldTree)), (h_t_splitPlaces, .inl (cI, 3, .inl a_t_splitPlaces))] t.heap) A) ([.ref h_t] : List Value).toArray s 0 0 A) (F0 m 111 ls []) := by
        intro n111
        induction n111 with
        | zero => intro vL111_0 H locs ls hP hD hS hl h; exact wq1_0 h
        | succ n111 ih111 =>
          intro vL111_0 H locs ls hP hD hS hl h
          have h := wq1_s h
          unfold B_X9_wrongFigures_111 at h
          refine lv_iload_n hx hb dX9_wrongFigures_111 rfl (lv_at hl 2 rfl) ?_
          refine lv_iload_n hx hb dX9_wrongFigures_112 rfl (lv_at hl 1 rfl) ?_
          refine lv_icmp_ge (tgt := 162) hx hb dX9_wrongFigures_113 (by decide) (fun c9 => ?_) (fun c9 => ?_)
          · have h := it_p h c9
            exact hK_X9_wrongFigures_111_162  _ _ _ hP hD hS (lv_sub hl [0, 1] rfl) h
          have h := it_n h c9
          refine lv_aload_n hx hb dX9_wrongFigures_116 rfl (lv_at hl 0 rfl) ?_
          refine va_get (D := G) (ci := 8) (v := .ref h_t_toldTree) (C := RX9) (T := TX9) (N := 42) hx hb hts hinX9 hown hK hP 0 rfl rfl 29 (by decide) (hta _ mw_619) (fun _ h9 => h9) rfl dX9_wrongFigures_117 ?_
          refine lv_iload_n hx hb dX9_wrongFigures_120 rfl (lv_at hl 2 rfl) ?_
          obtain ⟨hn10, h⟩ := ck_e h
          refine va_iald hx hb hK hP 3 0 rfl rfl hn10 dX9_wrongFigures_121 ?_
          refine lv_aload_n hx hb dX9_wrongFigures_122 rfl (lv_at hl 0 rfl) ?_
          refine va_get (D := G) (ci := 8) (v := .ref h_t_toldTree) (C := RX9) (T := TX9) (N := 42) hx hb hts hinX9 hown hK hP 0 rfl rfl 29 (by decide) (hta _ mw_619) (fun _ h9 => h9) rfl dX9_wrongFigures_123 ?_
          refine lv_iload_n hx hb dX9_wrongFigures_126 rfl (lv_at hl 1 rfl) ?_
          obtain ⟨hn11, h⟩ := ck_e h
          refine va_iald hx hb hK hP 3 0 rfl rfl hn11 dX9_wrongFigures_127 ?_
          refine lv_icmp_eq (tgt := 149) hx hb dX9_wrongFigures_128 (by decide) (fun c12 => ?_) (fun c12 => ?_)
          · have h := it_p h c12
            refine lv_aload_n hx hb dX9_wrongFigures_149 rfl (lv_at hl 0 rfl) ?_
            refine va_get (D := G) (ci := 8) (v := .ref h_t_splitPlaces) (C := RX9) (T := TX9) (N := 42) hx hb hts hinX9 hown hK hP 0 rfl rfl 30 (by decide) (hta _ mw_620) (fun _ h9 => h9) rfl dX9_wrongFigures_150 ?_
            refine lv_iload_n hx hb dX9_wrongFigures_153 rfl (lv_at hl 1 rfl) ?_
            obtain ⟨hn13, h⟩ := ck_e h
            refine va_iald hx hb hK hP 4 0 rfl rfl hn13 dX9_wrongFigures_154 ?_
            have h9 := Option.some.inj h
            have e9 : (a_t_splitPlaces vL78_0.toNatClampNeg) = r0 := congrArg (fun z9 => z9) h9
            rw [← e9]
            exact k_iret hx hb hr hlocks hP hS rfl dX9_wrongFigures_155
          have h := it_n h c12
          refine lv_aload_n hx hb dX9_wrongFigures_131 rfl (lv_at hl 0 rfl) ?_
          refine va_get (D := G) (ci := 8) (v := .ref h_t_toldTree) (C := RX9) (T := TX9) (N := 42) hx hb hts hinX9 hown hK hP 0 rfl rfl 29 (by decide) (hta _ mw_619) (fun _ h9 => h9) rfl dX9_wrongFigures_132 ?_
          refine lv_iload_n hx hb dX9_wrongFigures_135 rfl (lv_at hl 2 rfl) ?_
          obtain ⟨hn14, h⟩ := ck_e h
          refine va_iald hx hb hK hP 3 0 rfl rfl hn14 dX9_wrongFigures_136 ?_
          refine lv_aload_n hx hb dX9_wrongFigures_137 rfl (lv_at hl 0 rfl) ?_
          refine va_get (D := G) (ci := 8) (v := .ref h_t_toldTree) (C := RX9) (T := TX9) (N := 42) hx hb hts hinX9 hown hK hP 0 rfl rfl 29 (by decide) (hta _ mw_619) (fun _ h9 => h9) rfl dX9_wrongFigures_138 ?_
          refine lv_iload_n hx hb dX9_wrongFigures_141 rfl (lv_at hl 1 rfl) ?_
          obtain ⟨hn15, h⟩ := ck_e h
          refine va_iald hx hb hK hP 3 0 rfl rfl hn15 dX9_wrongFigures_142 ?_
          obtain ⟨x16, hx16, h⟩ := bd_e h
          try dsimp only at h
          refine k_SiU (n := 2) (As := [.int (a_t_toldTree vL111_0.toNatClampNeg), .int (a_t_toldTree vL78_0.toNatClampNeg)]) (rest := []) hx hb hml hown hts (c_X9_goTogether l G cI cJ cD cH H.size (a_t_toldTree vL111_0.toNatClampNeg) (a_t_toldTree vL78_0.toNatClampNeg) x16 hx16) gX9_wrongFigures_X9_goTogether rfl rfl rfl (by decide +kernel) ⟨by first | exact Nat.le_of_ble_eq_true rfl | (simp only [headSpec]; omega), by first | exact Nat.le_of_ble_eq_true rfl | (simp only [headSpec]; omega)⟩ hK hP hD hS hA [] (by decide) rfl rfl rfl hl.1 (Nat.le_of_ble_eq_true rfl) dX9_wrongFigures_143 ⟨Nat.zero_le _, Nat.zero_le _⟩ (fun hp16 H locs hP hS => ?_)
          refine lv_if_ne (tgt := 156) hx hb dX9_wrongFigures_146 (by decide) (fun c17 => ?_) (fun c17 => ?_)
          · have h := it_n h c17
            refine lv_iinc (v := (vL111_0 + (1 : Int32))) (lv' := [(2, .int (vL111_0 + (1 : Int32))), (0, .ref h_t), (1, .int vL78_0)]) hx hb dX9_wrongFigures_156 hl (k := 2) rfl (by first | rfl | decide) (by decide) rfl (fun ls hl => ?_)
            refine lv_goto (tgt := 111) hx hb dX9_wrongFigures_159 (by decide) ?_
            exact ih111 (vL111_0 + (1 : Int32)) _ _ _ hP hD hS (lv_sub hl [1, 2, 0] rfl) h
          have h := it_p h c17
          refine lv_aload_n hx hb dX9_wrongFigures_149 rfl (lv_at hl 0 rfl) ?_
          refine va_get (D := G) (ci := 8) (v := .ref h_t_splitPlaces) (C := RX9) (T := TX9) (N := 42) hx hb hts hinX9 hown hK hP 0 rfl rfl 30 (by decide) (hta _ mw_620) (fun _ h9 => h9) rfl dX9_wrongFigures_150 ?_
          refine lv_iload_n hx hb dX9_wrongFigures_153 rfl (lv_at hl 1 rfl) ?_
          obtain ⟨hn18, h⟩ := ck_e h
          refine va_iald hx hb hK hP 4 0 rfl rfl hn18 dX9_wrongFigures_154 ?_
          have h9 := Option.some.inj h
          have e9 : (a_t_splitPlaces vL78_0.toNatClampNeg) = r0 := congrArg (fun z9 => z9) h9
          rw [← e9]
          exact k_iret hx hb hr hlocks hP hS rfl dX9_wrongFigures_155
      exact hL111 FU (0 : Int32) _ _ _ hP hD hS (lv_sub hl [1, 2, 0] rfl) h
  exact hL78 FU (0 : Int32) _ _ _ hP hD hS (lv_sub hl [1, 0] rfl) h
set_option maxHeartbeats 4000000 in
set_option maxRecDepth 100000 in
theorem c_X9_wrongFigures (l : Launch) (G : va_G) (cI cJ cD cH : ClassId) (sz : Nat) (h_t : Nat) (h_t_toldPowers : Nat) (h_t_powerPlaces : Nat) (h_t_toldTree : Nat) (h_t_splitPlaces : Nat) (h_t_powers : Nat) (h_t_tree : Nat) (h_t_ahead : Nat) (h_t_behind : Nat) (h_t_before : Nat) (h_t_rows : Nat) (h_t_met : Nat) (h_t_metSizes : Nat) (h_t_chosen : Nat) (h_t_tape : Nat) (h_t_layers : Nat) (h_t_paper : Nat) (h_t_held : Nat) (h_t_numbers : Nat) (h_t_sizes : Nat) (h_t_heldLeaves : Nat) (h_t_items : Nat) (h_t_kept : Nat) (t_genus : Int32) (t_marks : Int32) (t_leaves : Int32) (t_splits : Int32) (t_done : Int32) (t_undone : Int32) (t_metMany : Int32) (t_treesSeen : Int32) (t_taped : Int32) (t_place : Int32) (t_isWrong : Int32) (t_toldGenus : Int32) (t_toldMarks : Int32) (t_isTree : Int32) (t_toldLeaves : Int32) (t_leavesPlace : Int32) (t_toldSplits : Int32) (t_isWhy : Int32) (t_papered : Int32) (t_isKept : Int32) (a_t_toldPowers : Nat → Int32) (a_t_powerPlaces : Nat → Int32) (a_t_toldTree : Nat → Int32) (a_t_splitPlaces : Nat → Int32) (r0 : Int32) (hF : F_X9_wrongFigures t_toldGenus t_toldMarks t_isTree t_toldLeaves t_leavesPlace t_toldSplits a_t_toldPowers a_t_powerPlaces a_t_toldTree a_t_splitPlaces = some r0) : Met l yX9_wrongFigures wsX9_wrongFigures ({ frames := 2, cells := 0, slots := 0, locals := 46 }) (k_pre G (k_T cI cJ cD cH) [(h_t, .inr (8, [.int t_genus, .int t_marks, .ref h_t_powers, .int t_leaves, .int t_splits, .ref h_t_tree, .ref h_t_ahead, .ref h_t_behind, .ref h_t_before, .int t_done, .int t_undone, .ref h_t_rows, .ref h_t_met, .ref h_t_metSizes, .int t_metMany, .int t_treesSeen, .ref h_t_chosen, .ref h_t_tape, .int t_taped, .int t_place, .int t_isWrong, .int t_toldGenus, .int t_toldMarks, .ref h_t_toldPowers, .ref h_t_powerPlaces, .int t_isTree, .int t_toldLeaves, .int t_leavesPlace, .int t_toldSplits, .ref h_t_toldTree, .ref h_t_splitPlaces, .ref h_t_layers, .int t_isWhy, .ref h_t_paper, .int t_papered, .ref h_t_held, .ref h_t_numbers, .ref h_t_sizes, .ref h_t_heldLeaves, .ref h_t_items, .ref h_t_kept, .int t_isKept])), (h_t_toldPowers, .inl (cI, 8, .inl a_t_toldPowers)), (h_t_powerPlaces, .inl (cI, 8, .inl a_t_powerPlaces)), (h_t_toldTree, .inl (cI, 3, .inl a_t_toldTree)), (h_t_splitPlaces, .inl (cI, 3, .inl a_t_splitPlaces))] sz [.ref h_t]) (va_Qi (fun r (_ : Unit) => r = r0 ∧ True) (fun _ t => va_P G vwCl [(h_t, .inr (8, [.int t_genus, .int t_marks, .ref h_t_powers, .int t_leaves, .int t_splits, .ref h_t_tree, .ref h_t_ahead, .ref h_t_behind, .ref h_t_before, .int t_done, .int t_undone, .ref h_t_rows, .ref h_t_met, .ref h_t_metSizes, .int t_metMany, .int t_treesSeen, .ref h_t_chosen, .ref h_t_tape, .int t_taped, .int t_place, .int t_isWrong, .int t_toldGenus, .int t_toldMarks, .ref h_t_toldPowers, .ref h_t_powerPlaces, .int t_isTree, .int t_toldLeaves, .int t_leavesPlace, .int t_toldSplits, .ref h_t_toldTree, .ref h_t_splitPlaces, .ref h_t_layers, .int t_isWhy, .ref h_t_paper, .int t_papered, .ref h_t_held, .ref h_t_numbers, .ref h_t_sizes, .ref h_t_heldLeaves, .ref h_t_items, .ref h_t_kept, .int t_isKept])), (h_t_toldPowers, .inl (cI, 8, .inl a_t_toldPowers)), (h_t_powerPlaces, .inl (cI, 8, .inl a_t_powerPlaces)), (h_t_toldTree, .inl (cI, 3, .inl a_t_toldTree)), (h_t_splitPlaces, .inl (cI, 3, .inl a_t_splitPlaces))] t.heap) (va_A [(h_t, .inr (8, [.int t_genus, .int t_marks, .ref h_t_powers, .int t_leaves, .int t_splits, .ref h_t_tree, .ref h_t_ahead, .ref h_t_behind, .ref h_t_before, .int t_done, .int t_undone, .ref h_t_rows, .ref h_t_met, .ref h_t_metSizes, .int t_metMany, .int t_treesSeen, .ref h_t_chosen, .ref h_t_tape, .int t_taped, .int t_place, .int t_isWrong, .int t_toldGenus, .int t_toldMarks, .ref h_t_toldPowers, .ref h_t_powerPlaces, .int t_isTree, .int t_toldLeaves, .int t_leavesPlace, .int t_toldSplits, .ref h_t_toldTree, .ref h_t_splitPlaces, .ref h_t_layers, .int t_isWhy, .ref h_t_paper, .int t_papered, .ref h_t_held, .ref h_t_numbers, .ref h_t_sizes, .ref h_t_heldLeaves, .ref h_t_items, .ref h_t_kept, .int t_isKept])), (h_t_toldPowers, .inl (cI, 8, .inl a_t_toldPowers)), (h_t_powerPlaces, .inl (cI, 8, .inl a_t_powerPlaces)), (h_t_toldTree, .inl (cI, 3, .inl a_t_toldTree)), (h_t_splitPlaces, .inl (cI, 3, .inl a_t_splitPlaces))] sz)) 0 0 (va_A [(h_t, .inr (8, [.int t_genus, .int t_marks, .ref h_t_powers, .int t_leaves, .int t_splits, .ref h_t_tree, .ref h_t_ahead, .ref h_t_behind, .ref h_t_before, .int t_done, .int t_undone, .ref h_t_rows, .ref h_t_met, .ref h_t_metSizes, .int t_metMany, .int t_treesSeen, .ref h_t_chosen, .ref h_t_tape, .int t_taped, .int t_place, .int t_isWrong, .int t_toldGenus, .int t_toldMarks, .ref h_t_toldPowers, .ref h_t_powerPlaces, .int t_isTree, .int t_toldLeaves, .int t_leavesPlace, .int t_toldSplits, .ref h_t_toldTree, .ref h_t_splitPlaces, .ref h_t_layers, .int t_isWhy, .ref h_t_paper, .int t_papered, .ref h_t_held, .ref h_t_numbers, .ref h_t_sizes, .ref h_t_heldLeaves, .ref h_t_items, .ref h_t_kept, .int t_isKept])), (h_t_toldPowers, .inl (cI, 8, .inl a_t_toldPowers)), (h_t_powerPlaces, .inl (cI, 8, .inl a_t_powerPlaces)), (h_t_toldTree, .inl (cI, 3, .inl a_t_toldTree)), (h_t_splitPlaces, .inl (cI, 3, .inl a_t_splitPlaces))] sz) := by
  refine Met.ofW (cc := cX9_wrongFigures) (maxL := 3) (ret := (some .int)) (by decide) rfl ?_
  intro p e s m args below meth c s₁ B hml hv
  obtain ⟨rfl, hsz, hP, hK, hD0⟩ := hv
  have hx := B.exec
  have hb := B.bytes
  have hr := B.returns
  have hts := atoms_spec (ws := wsX9_wrongFigures) B.pre
  have hta : ∀ w ∈ wA, w.before ([.ref h_t] : List Value).toArray s = true := hta_of hts
  have hown : s.vm.findClass RX9 = some m.cls := findClass_of_methodNamed B.named
  have hlocks := B.notSynchronized
  subst hsz
  have hD := hD0.self (sz := s.heap.size)
  generalize hAe : va_A [(h_t, .inr (8, [.int t_genus, .int t_marks, .ref h_t_powers, .int t_leaves, .int t_splits, .ref h_t_tree, .ref h_t_ahead, .ref h_t_behind, .ref h_t_before, .int t_done, .int t_undone, .ref h_t_rows, .ref h_t_met, .ref h_t_metSizes, .int t_metMany, .int t_treesSeen, .ref h_t_chosen, .ref h_t_tape, .int t_taped, .int t_place, .int t_isWrong, .int t_toldGenus, .int t_toldMarks, .ref h_t_toldPowers, .ref h_t_powerPlaces, .int t_isTree, .int t_toldLeaves, .int t_leavesPlace, .int t_toldSplits, .ref h_t_toldTree, .ref h_t_splitPlaces, .ref h_t_layers, .int t_isWhy, .ref h_t_paper, .int t_papered, .ref h_t_held, .ref h_t_numbers, .ref h_t_sizes, .ref h_t_heldLeaves, .ref h_t_items, .ref h_t_kept, .int t_isKept])), (h_t_toldPowers, .inl (cI, 8, .inl a_t_toldPowers)), (h_t_powerPlaces, .inl (cI, 8, .inl a_t_powerPlaces)), (h_t_toldTree, .inl (cI, 3, .inl a_t_toldTree)), (h_t_splitPlaces, .inl (cI, 3, .inl a_t_splitPlaces))] s.heap.size = A at hD ⊢
  have hA : ∀ q : Nat, s.heap.size ≤ q → A q := fun q h => by rw [← hAe]; exact Or.inr h
  have hS : va_S A s.heap s.heap [] := va_S.rf
  have hl := lv_entry ([.ref h_t]) (n := 3) (Nat.le_of_ble_eq_true rfl)
  rw [lg_entry_eq]
  generalize (lg_sl ([.ref h_t]) ++ List.replicate (3 - (lg_sl ([.ref h_t])).length) Slot.unset).toArray = ls at hl ⊢
  have hl : lv_has ls 3 [(0, .ref h_t)] := hl
  have hinX9 : ∀ w ∈ wsX90, w ∈ wsX9_wrongFigures := hin_of in_X9
  have h := hF
  unfold F_X9_wrongFigures at h
  refine lv_aload_n hx hb dX9_wrongFigures_0 rfl (lv_at hl 0 rfl) ?_
  refine va_get (D := G) (ci := 8) (v := .int t_toldGenus) (C := RX9) (T := TX9) (N := 42) hx hb hts hinX9 hown hK hP 0 rfl rfl 21 (by decide) (hta _ mw_825) (fun _ h9 => h9) rfl dX9_wrongFigures_1 ?_
  refine lv_iconst (v := (2 : Int32)) hx hb dX9_wrongFigures_4 (by decide) ?_
  refine lv_icmp_le (tgt := 10) hx hb dX9_wrongFigures_5 (by decide) (fun c1 => ?_) (fun c1 => ?_)
  rotate_left
  · have h := it_n h c1
    refine lv_iconst (v := (0 : Int32)) hx hb dX9_wrongFigures_8 (by decide) ?_
    have h9 := Option.some.inj h
    have e9 : (0 : Int32) = r0 := congrArg (fun z9 => z9) h9
    rw [← e9]
    exact k_iret hx hb hr hlocks hP hS rfl dX9_wrongFigures_9
  have h := it_p h c1
  refine lv_iconst (v := (0 : Int32)) hx hb dX9_wrongFigures_10 (by decide) ?_
  refine lv_istore_n (lv' := [(1, .int (0 : Int32)), (0, .ref h_t)]) hx hb dX9_wrongFigures_11 rfl hl (by decide) rfl (fun ls hl => ?_)
  have hL12 : ∀ (n12 : Nat) (vL12_0 : Int32) (H : Heap) (locs : List Loc) (ls : Array Slot), va_P G vwCl [(h_t, .inr (8, [.int t_genus, .int t_marks, .ref h_t_powers, .int t_leaves, .int t_splits, .ref h_t_tree, .ref h_t_ahead, .ref h_t_behind, .ref h_t_before, .int t_done, .int t_undone, .ref h_t_rows, .ref h_t_met, .ref h_t_metSizes, .int t_metMany, .int t_treesSeen, .ref h_t_chosen, .ref h_t_tape, .int t_taped, .int t_place, .int t_isWrong, .int t_toldGenus, .int t_toldMarks, .ref h_t_toldPowers, .ref h_t_powerPlaces, .int t_isTree, .int t_toldLeaves, .int t_leavesPlace, .int t_toldSplits, .ref h_t_toldTree, .ref h_t_splitPlaces, .ref h_t_layers, .int t_isWhy, .ref h_t_paper, .int t_papered, .ref h_t_held, .ref h_t_numbers, .ref h_t_sizes, .ref h_t_heldLeaves, .ref h_t_items, .ref h_t_kept, .int t_isKept])), (h_t_toldPowers, .inl (cI, 8, .inl a_t_toldPowers)), (h_t_powerPlaces, .inl (cI, 8, .inl a_t_powerPlaces)), (h_t_toldTree, .inl (cI, 3, .inl a_t_toldTree)), (h_t_splitPlaces, .inl (cI, 3, .inl a_t_splitPlaces))] H → va_D A [(h_t, .inr (8, [.int t_genus, .int t_marks, .ref h_t_powers, .int t_leaves, .int t_splits, .ref h_t_tree, .ref h_t_ahead, .ref h_t_behind, .ref h_t_before, .int t_done, .int t_undone, .ref h_t_rows, .ref h_t_met, .ref h_t_metSizes, .int t_metMany, .int t_treesSeen, .ref h_t_chosen, .ref h_t_tape, .int t_taped, .int t_place, .int t_isWrong, .int t_toldGenus, .int t_toldMarks, .ref h_t_toldPowers, .ref h_t_powerPlaces, .int t_isTree, .int t_toldLeaves, .int t_leavesPlace, .int t_toldSplits, .ref h_t_toldTree, .ref h_t_splitPlaces, .ref h_t_layers, .int t_isWhy, .ref h_t_paper, .int t_papered, .ref h_t_held, .ref h_t_numbers, .ref h_t_sizes, .ref h_t_heldLeaves, .ref h_t_items, .ref h_t_kept, .int t_isKept])), (h_t_toldPowers, .inl (cI, 8, .inl a_t_toldPowers)), (h_t_powerPlaces, .inl (cI, 8, .inl a_t_powerPlaces)), (h_t_toldTree, .inl (cI, 3, .inl a_t_toldTree)), (h_t_splitPlaces, .inl (cI, 3, .inl a_t_splitPlaces))] → va_S A s.heap H locs → lv_has ls 3 [(0, .ref h_t), (1, .int vL12_0)] → wq1 (B_X9_wrongFigures_12 t_toldMarks a_t_toldPowers a_t_powerPlaces (K_X9_wrongFigures_12_44 t_isTree t_toldLeaves t_leavesPlace t_toldSplits a_t_toldTree a_t_splitPlaces)) n12 vL12_0 = some r0 → W p l e (headSpec wsX9_wrongFigures ({ frames := 2, cells := 0, slots := 0, locals := 46 })).room s m ([.ref h_t] : List Value).toArray below meth c H locs 0 0 (MQ below (va_Qi (fun r (_ : Unit) => r = r0 ∧ True) (fun _ t => va_P G vwCl [(h_t, .inr (8, [.int t_genus, .int t_marks, .ref h_t_powers, .int t_leaves, .int t_splits, .ref h_t_tree, .ref h_t_ahead, .ref h_t_behind, .ref h_t_before, .int t_done, .int t_undone, .ref h_t_rows, .ref h_t_met, .ref h_t_metSizes, .int t_metMany, .int t_treesSeen, .ref h_t_chosen, .ref h_t_tape, .int t_taped, .int t_place, .int t_isWrong, .int t_toldGenus, .int t_toldMarks, .ref h_t_toldPowers, .ref h_t_powerPlaces, .int t_isTree, .int t_toldLeaves, .int t_leavesPlace, .int t_toldSplits, .ref h_t_toldTree, .ref h_t_splitPlaces, .ref h_t_layers, .int t_isWhy, .ref h_t_paper, .int t_papered, .ref h_t_held, .ref h_t_numbers, .ref h_t_sizes, .ref h_t_heldLeaves, .ref h_t_items, .ref h_t_kept, .int t_isKept])), (h_t_toldPowers, .inl (cI, 8, .inl a_t_toldPowers)), (h_t_powerPlaces, .inl (cI, 8, .inl a_t_powerPlaces)), (h_t_toldTree, .inl (cI, 3, .inl a_t_toldTree)), (h_t_splitPlaces, .inl (cI, 3, .inl a_t_splitPlaces))] t.heap) A) ([.ref h_t] : List Value).toArray s 0 0 A) (F0 m 12 ls []) := by
    intro n12
    induction n12 with
    | zero => intro vL12_0 H locs ls hP hD hS hl h; exact wq1_0 h
    | succ n12 ih12 =>
      intro vL12_0 H locs ls hP hD hS hl h
      have h := wq1_s h
      unfold B_X9_wrongFigures_12 at h
      refine lv_iload_n hx hb dX9_wrongFigures_12 rfl (lv_at hl 1 rfl) ?_
      refine lv_aload_n hx hb dX9_wrongFigures_13 rfl (lv_at hl 0 rfl) ?_
      refine va_get (D := G) (ci := 8) (v := .int t_toldMarks) (C := RX9) (T := TX9) (N := 42) hx hb hts hinX9 hown hK hP 0 rfl rfl 22 (by decide) (hta _ mw_817) (fun _ h9 => h9) rfl dX9_wrongFigures_14 ?_
      refine lv_icmp_ge (tgt := 44) hx hb dX9_wrongFigures_17 (by decide) (fun c20 => ?_) (fun c20 => ?_)
      · have h := it_p h c20
        exact tK_X9_wrongFigures_12_44 hx hb hr hml hts hown hlocks hK hA  _ _ _ hP hD hS (lv_sub hl [0] rfl) h
      have h := it_n h c20
      refine lv_aload_n hx hb dX9_wrongFigures_20 rfl (lv_at hl 0 rfl) ?_
      refine va_get (D := G) (ci := 8) (v := .ref h_t_toldPowers) (C := RX9) (T := TX9) (N := 42) hx hb hts hinX9 hown hK hP 0 rfl rfl 23 (by decide) (hta _ mw_617) (fun _ h9 => h9) rfl dX9_wrongFigures_21 ?_
      refine lv_iload_n hx hb dX9_wrongFigures_24 rfl (lv_at hl 1 rfl) ?_
      obtain ⟨hn21, h⟩ := ck_e h
      refine va_iald hx hb hK hP 1 0 rfl rfl hn21 dX9_wrongFigures_25 ?_
      refine lv_bipush (v := (12 : Int32)) hx hb dX9_wrongFigures_26 (by decide) ?_
      refine lv_icmp_le (tgt := 38) hx hb dX9_wrongFigures_28 (by decide) (fun c22 => ?_) (fun c22 => ?_)
      · have h := it_p h c22
        refine lv_iinc (v := (vL12_0 + (1 : Int32))) (lv' := [(1, .int (vL12_0 + (1 : Int32))), (0, .ref h_t)]) hx hb dX9_wrongFigures_38 hl (k := 1) rfl (by first | rfl | decide) (by decide) rfl (fun ls hl => ?_)
        refine lv_goto (tgt := 12) hx hb dX9_wrongFigures_41 (by decide) ?_
        exact ih12 (vL12_0 + (1 : Int32)) _ _ _ hP hD hS (lv_sub hl [1, 0] rfl) h
      have h := it_n h c22
      refine lv_aload_n hx hb dX9_wrongFigures_31 rfl (lv_at hl 0 rfl) ?_
      refine va_get (D := G) (ci := 8) (v := .ref h_t_powerPlaces) (C := RX9) (T := TX9) (N := 42) hx hb hts hinX9 hown hK hP 0 rfl rfl 24 (by decide) (hta _ mw_618) (fun _ h9 => h9) rfl dX9_wrongFigures_32 ?_
      refine lv_iload_n hx hb dX9_wrongFigures_35 rfl (lv_at hl 1 rfl) ?_
      obtain ⟨hn23, h⟩ := ck_e h
      refine va_iald hx hb hK hP 2 0 rfl rfl hn23 dX9_wrongFigures_36 ?_
      have h9 := Option.some.inj h
      have e9 : (a_t_powerPlaces vL12_0.toNatClampNeg) = r0 := congrArg (fun z9 => z9) h9
      rw [← e9]
      exact k_iret hx hb hr hlocks hP hS rfl dX9_wrongFigures_37
  exact hL12 FU (0 : Int32) _ _ _ hP hD hS (lv_sub hl [1, 0] rfl) h
