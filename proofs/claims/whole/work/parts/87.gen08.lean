/-! X9_kappa -/
set_option maxHeartbeats 4000000 in
set_option maxRecDepth 100000 in
theorem tJ_X9_kappa_166 {l : Launch} {G : va_G} {cI cJ cD cH : ClassId} {h_t : Nat} {h_t_rows : Nat} {h_t_powers : Nat} {h_t_tree : Nat} {h_t_ahead : Nat} {h_t_behind : Nat} {h_t_before : Nat} {h_t_met : Nat} {h_t_metSizes : Nat} {h_t_chosen : Nat} {h_t_tape : Nat} {h_t_toldPowers : Nat} {h_t_powerPlaces : Nat} {h_t_toldTree : Nat} {h_t_splitPlaces : Nat} {h_t_layers : Nat} {h_t_paper : Nat} {h_t_held : Nat} {h_t_numbers : Nat} {h_t_sizes : Nat} {h_t_heldLeaves : Nat} {h_t_items : Nat} {h_t_kept : Nat} {t_genus : Int32} {t_marks : Int32} {t_leaves : Int32} {t_splits : Int32} {t_done : Int32} {t_undone : Int32} {t_metMany : Int32} {t_treesSeen : Int32} {t_taped : Int32} {t_place : Int32} {t_isWrong : Int32} {t_toldGenus : Int32} {t_toldMarks : Int32} {t_isTree : Int32} {t_toldLeaves : Int32} {t_leavesPlace : Int32} {t_toldSplits : Int32} {t_isWhy : Int32} {t_papered : Int32} {t_isKept : Int32} {a_t_powers : Nat → Int32} {p0 : Int32} {p1 : Int32} {p2 : Int32} {p3 : Int32} {r0 : Int64} {w0 : Nat → Int32} {p : Program} {e : Env} {s : State} {m : MethodId} {below : List Frame} {meth : Method} {c : Code} {A : Nat → Prop} (hx : p.tables.exec = Jvm.exec) (hb : c.code = cX9_kappa) (hr : meth.sig.returnType = (some .long)) (hml : c.maxLocals = 7) (hts : ∀ w ∈ wsX9_kappa, w.before ([.ref h_t, .int p0, .int p1, .int p2, .int p3] : List Value).toArray s = true) (hown : s.vm.findClass RX9 = some m.cls) (hlocks : meth.locks = false) (hK : va_K G vwCl (k_T cI cJ cD cH) s) (hA : ∀ q : Nat, s.heap.size ≤ q → A q) : ∀  (vJ166_0 : Nat → Int32) (vJ166_1 : Int64) (H : Heap) (locs : List Loc) (ls : Array Slot), va_P G vwCl [(h_t, .inr (8, [.int t_genus, .int t_marks, .ref h_t_powers, .int t_leaves, .int t_splits, .ref h_t_tree, .ref h_t_ahead, .ref h_t_behind, .ref h_t_before, .int t_done, .int t_undone, .ref h_t_rows, .ref h_t_met, .ref h_t_metSizes, .int t_metMany, .int t_treesSeen, .ref h_t_chosen, .ref h_t_tape, .int t_taped, .int t_place, .int t_isWrong, .int t_toldGenus, .int t_toldMarks, .ref h_t_toldPowers, .ref h_t_powerPlaces, .int t_isTree, .int t_toldLeaves, .int t_leavesPlace, .int t_toldSplits, .ref h_t_toldTree, .ref h_t_splitPlaces, .ref h_t_layers, .int t_isWhy, .ref h_t_paper, .int t_papered, .ref h_t_held, .ref h_t_numbers, .ref h_t_sizes, .ref h_t_heldLeaves, .ref h_t_items, .ref h_t_kept, .int t_isKept])), (h_t_rows, .inl (cI, 480, .inl vJ166_0)), (h_t_powers, .inl (cI, 8, .inl a_t_powers))] H → va_D A [(h_t, .inr (8, [.int t_genus, .int t_marks, .ref h_t_powers, .int t_leaves, .int t_splits, .ref h_t_tree, .ref h_t_ahead, .ref h_t_behind, .ref h_t_before, .int t_done, .int t_undone, .ref h_t_rows, .ref h_t_met, .ref h_t_metSizes, .int t_metMany, .int t_treesSeen, .ref h_t_chosen, .ref h_t_tape, .int t_taped, .int t_place, .int t_isWrong, .int t_toldGenus, .int t_toldMarks, .ref h_t_toldPowers, .ref h_t_powerPlaces, .int t_isTree, .int t_toldLeaves, .int t_leavesPlace, .int t_toldSplits, .ref h_t_toldTree, .ref h_t_splitPlaces, .ref h_t_layers, .int t_isWhy, .ref h_t_paper, .int t_papered, .ref h_t_held, .ref h_t_numbers, .ref h_t_sizes, .ref h_t_heldLeaves, .ref h_t_items, .ref h_t_kept, .int t_isKept])), (h_t_rows, .inl (cI, 480, .inl vJ166_0)), (h_t_powers, .inl (cI, 8, .inl a_t_powers))] → va_S A s.heap H locs → lv_has ls 7 [(0, .ref h_t), (4, .int p3), (5, .long vJ166_1)] → J_X9_kappa_166 t_genus p3 vJ166_0 vJ166_1 = some (r0, w0) → W p l e (headSpec wsX9_kappa ({ frames := 23, cells := 0, slots := 0, locals := 648 })).room s m ([.ref h_t, .int p0, .int p1, .int p2, .int p3] : List Value).toArray below meth c H locs 0 0 (MQ below (va_Ql (fun r (_ : Unit) => r = r0 ∧ True) (fun _ t => va_P G vwCl [(h_t, .inr (8, [.int t_genus, .int t_marks, .ref h_t_powers, .int t_leaves, .int t_splits, .ref h_t_tree, .ref h_t_ahead, .ref h_t_behind, .ref h_t_before, .int t_done, .int t_undone, .ref h_t_rows, .ref h_t_met, .ref h_t_metSizes, .int t_metMany, .int t_treesSeen, .ref h_t_chosen, .ref h_t_tape, .int t_taped, .int t_place, .int t_isWrong, .int t_toldGenus, .int t_toldMarks, .ref h_t_toldPowers, .ref h_t_powerPlaces, .int t_isTree, .int t_toldLeaves, .int t_leavesPlace, .int t_toldSplits, .ref h_t_toldTree, .ref h_t_splitPlaces, .ref h_t_layers, .int t_isWhy, .ref h_t_paper, .int t_papered, .ref h_t_held, .ref h_t_numbers, .ref h_t_sizes, .ref h_t_heldLeaves, .ref h_t_items, .ref h_t_kept, .int t_isKept])), (h_t_rows, .inl (cI, 480, .inl w0)), (h_t_powers, .inl (cI, 8, .inl a_t_powers))] t.heap) A) ([.ref h_t, .int p0, .int p1, .int p2, .int p3] : List Value).toArray s 0 0 A) (F0 m 166 ls []) := by
  have hta : ∀ w ∈ wA, w.before ([.ref h_t, .int p0, .int p1, .int p2, .int p3] : List Value).toArray s = true := hta_of hts
  have hinX9 : ∀ w ∈ wsX90, w ∈ wsX9_kappa := hin_of in_X9
  intro vJ166_0 vJ166_1 H locs ls hP hD hS hl h
  unfold J_X9_kappa_166 at h
  refine lv_lload hx hb dX9_kappa_166 (lv_at hl 2 rfl) ?_
  refine lv_aload_n hx hb dX9_kappa_168 rfl (lv_at hl 0 rfl) ?_
  refine va_get (D := G) (ci := 8) (v := .int t_genus) (C := RX9) (T := TX9) (N := 42) hx hb hts hinX9 hown hK hP 0 rfl rfl 0 (by decide) (hta _ mw_640) (fun _ h9 => h9) rfl dX9_kappa_169 ?_
  obtain ⟨x9, hx9, h⟩ := bd_e h
  try dsimp only at h
  refine k_SlU (n := 1) (As := [.int t_genus]) (rest := [.long vJ166_1]) hx hb hml hown hts (c_X9_line l G cI cJ cD cH H.size t_genus x9 hx9) gX9_kappa_X9_line rfl rfl rfl (by decide +kernel) ⟨by first | exact Nat.le_of_ble_eq_true rfl | (simp only [headSpec]; omega), by first | exact Nat.le_of_ble_eq_true rfl | (simp only [headSpec]; omega)⟩ hK hP hD hS hA [] (by decide) rfl rfl rfl hl.1 (Nat.le_of_ble_eq_true rfl) dX9_kappa_172 ⟨Nat.zero_le _, Nat.zero_le _⟩ (fun hp9 H locs hP hS => ?_)
  refine lv_iload hx hb dX9_kappa_175 (lv_at hl 1 rfl) ?_
  obtain ⟨x10, hx10, h⟩ := bd_e h
  try dsimp only at h
  refine k_SlU (n := 3) (As := [.long vJ166_1, .long x9, .int p3]) (rest := []) hx hb hml hown hts (c_X9_part l G cI cJ cD cH H.size vJ166_1 x9 p3 x10 hx10) gX9_kappa_X9_part rfl rfl rfl (by decide +kernel) ⟨by first | exact Nat.le_of_ble_eq_true rfl | (simp only [headSpec]; omega), by first | exact Nat.le_of_ble_eq_true rfl | (simp only [headSpec]; omega)⟩ hK hP hD hS hA [] (by decide) rfl rfl rfl hl.1 (Nat.le_of_ble_eq_true rfl) dX9_kappa_177 ⟨Nat.zero_le _, Nat.zero_le _⟩ (fun hp10 H locs hP hS => ?_)
  have h9 := Option.some.inj h
  have e9 : x10 = r0 := congrArg (fun z9 => z9.1) h9
  rw [← e9]
  have e9 : vJ166_0 = w0 := congrArg (fun z9 => z9.2) h9
  rw [← e9]
  exact k_lret hx hb hr hlocks hP hS rfl dX9_kappa_180
set_option maxHeartbeats 4000000 in
set_option maxRecDepth 100000 in
theorem tJ_X9_kappa_58 {l : Launch} {G : va_G} {cI cJ cD cH : ClassId} {h_t : Nat} {h_t_rows : Nat} {h_t_powers : Nat} {h_t_tree : Nat} {h_t_ahead : Nat} {h_t_behind : Nat} {h_t_before : Nat} {h_t_met : Nat} {h_t_metSizes : Nat} {h_t_chosen : Nat} {h_t_tape : Nat} {h_t_toldPowers : Nat} {h_t_powerPlaces : Nat} {h_t_toldTree : Nat} {h_t_splitPlaces : Nat} {h_t_layers : Nat} {h_t_paper : Nat} {h_t_held : Nat} {h_t_numbers : Nat} {h_t_sizes : Nat} {h_t_heldLeaves : Nat} {h_t_items : Nat} {h_t_kept : Nat} {t_genus : Int32} {t_marks : Int32} {t_leaves : Int32} {t_splits : Int32} {t_done : Int32} {t_undone : Int32} {t_metMany : Int32} {t_treesSeen : Int32} {t_taped : Int32} {t_place : Int32} {t_isWrong : Int32} {t_toldGenus : Int32} {t_toldMarks : Int32} {t_isTree : Int32} {t_toldLeaves : Int32} {t_leavesPlace : Int32} {t_toldSplits : Int32} {t_isWhy : Int32} {t_papered : Int32} {t_isKept : Int32} {a_t_rows : Nat → Int32} {a_t_powers : Nat → Int32} {p0 : Int32} {p1 : Int32} {p2 : Int32} {p3 : Int32} {r0 : Int64} {w0 : Nat → Int32} {p : Program} {e : Env} {s : State} {m : MethodId} {below : List Frame} {meth : Method} {c : Code} {A : Nat → Prop} (hx : p.tables.exec = Jvm.exec) (hb : c.code = cX9_kappa) (hr : meth.sig.returnType = (some .long)) (hml : c.maxLocals = 7) (hts : ∀ w ∈ wsX9_kappa, w.before ([.ref h_t, .int p0, .int p1, .int p2, .int p3] : List Value).toArray s = true) (hown : s.vm.findClass RX9 = some m.cls) (hlocks : meth.locks = false) (hK : va_K G vwCl (k_T cI cJ cD cH) s) (hA : ∀ q : Nat, s.heap.size ≤ q → A q) : ∀ (H : Heap) (locs : List Loc) (ls : Array Slot), va_P G vwCl [(h_t, .inr (8, [.int t_genus, .int t_marks, .ref h_t_powers, .int t_leaves, .int t_splits, .ref h_t_tree, .ref h_t_ahead, .ref h_t_behind, .ref h_t_before, .int t_done, .int t_undone, .ref h_t_rows, .ref h_t_met, .ref h_t_metSizes, .int t_metMany, .int t_treesSeen, .ref h_t_chosen, .ref h_t_tape, .int t_taped, .int t_place, .int t_isWrong, .int t_toldGenus, .int t_toldMarks, .ref h_t_toldPowers, .ref h_t_powerPlaces, .int t_isTree, .int t_toldLeaves, .int t_leavesPlace, .int t_toldSplits, .ref h_t_toldTree, .ref h_t_splitPlaces, .ref h_t_layers, .int t_isWhy, .ref h_t_paper, .int t_papered, .ref h_t_held, .ref h_t_numbers, .ref h_t_sizes, .ref h_t_heldLeaves, .ref h_t_items, .ref h_t_kept, .int t_isKept])), (h_t_rows, .inl (cI, 480, .inl a_t_rows)), (h_t_powers, .inl (cI, 8, .inl a_t_powers))] H → va_D A [(h_t, .inr (8, [.int t_genus, .int t_marks, .ref h_t_powers, .int t_leaves, .int t_splits, .ref h_t_tree, .ref h_t_ahead, .ref h_t_behind, .ref h_t_before, .int t_done, .int t_undone, .ref h_t_rows, .ref h_t_met, .ref h_t_metSizes, .int t_metMany, .int t_treesSeen, .ref h_t_chosen, .ref h_t_tape, .int t_taped, .int t_place, .int t_isWrong, .int t_toldGenus, .int t_toldMarks, .ref h_t_toldPowers, .ref h_t_powerPlaces, .int t_isTree, .int t_toldLeaves, .int t_leavesPlace, .int t_toldSplits, .ref h_t_toldTree, .ref h_t_splitPlaces, .ref h_t_layers, .int t_isWhy, .ref h_t_paper, .int t_papered, .ref h_t_held, .ref h_t_numbers, .ref h_t_sizes, .ref h_t_heldLeaves, .ref h_t_items, .ref h_t_kept, .int t_isKept])), (h_t_rows, .inl (cI, 480, .inl a_t_rows)), (h_t_powers, .inl (cI, 8, .inl a_t_powers))] → va_S A s.heap H locs → lv_has ls 7 [(0, .ref h_t), (1, .int p0), (2, .int p1), (3, .int p2), (4, .int p3)] → J_X9_kappa_58 t_genus t_marks a_t_rows a_t_powers p0 p1 p2 p3 = some (r0, w0) → W p l e (headSpec wsX9_kappa ({ frames := 23, cells := 0, slots := 0, locals := 648 })).room s m ([.ref h_t, .int p0, .int p1, .int p2, .int p3] : List Value).toArray below meth c H locs 0 0 (MQ below (va_Ql (fun r (_ : Unit) => r = r0 ∧ True) (fun _ t => va_P G vwCl [(h_t, .inr (8, [.int t_genus, .int t_marks, .ref h_t_powers, .int t_leaves, .int t_splits, .ref h_t_tree, .ref h_t_ahead, .ref h_t_behind, .ref h_t_before, .int t_done, .int t_undone, .ref h_t_rows, .ref h_t_met, .ref h_t_metSizes, .int t_metMany, .int t_treesSeen, .ref h_t_chosen, .ref h_t_tape, .int t_taped, .int t_place, .int t_isWrong, .int t_toldGenus, .int t_toldMarks, .ref h_t_toldPowers, .ref h_t_powerPlaces, .int t_isTree, .int t_toldLeaves, .int t_leavesPlace, .int t_toldSplits, .ref h_t_toldTree, .ref h_t_splitPlaces, .ref h_t_layers, .int t_isWhy, .ref h_t_paper, .int t_papered, .ref h_t_held, .ref h_t_numbers, .ref h_t_sizes, .ref h_t_heldLeaves, .ref h_t_items, .ref h_t_kept, .int t_isKept])), (h_t_rows, .inl (cI, 480, .inl w0)), (h_t_powers, .inl (cI, 8, .inl a_t_powers))] t.heap) A) ([.ref h_t, .int p0, .int p1, .int p2, .int p3] : List Value).toArray s 0 0 A) (F0 m 58 ls []) := by
  have hta : ∀ w ∈ wA, w.before ([.ref h_t, .int p0, .int p1, .int p2, .int p3] : List Value).toArray s = true := hta_of hts
  have hinX9 : ∀ w ∈ wsX90, w ∈ wsX9_kappa := hin_of in_X9
  intro  H locs ls hP hD hS hl h
  unfold J_X9_kappa_58 at h
  refine lv_iload hx hb dX9_kappa_58 (lv_at hl 4 rfl) ?_
  refine lv_i2l (v := p3.toInt64) hx hb dX9_kappa_60 (by first | rfl | decide) ?_
  refine lv_lconst (v := (0 : Int64)) hx hb dX9_kappa_61 (by decide) ?_
  refine lv_lconst (v := (1 : Int64)) hx hb dX9_kappa_62 (by decide) ?_
  obtain ⟨x7, hx7, h⟩ := bd_e h
  try dsimp only at h
  refine k_SiU (n := 3) (As := [.long p3.toInt64, .long (0 : Int64), .long (1 : Int64)]) (rest := []) hx hb hml hown hts (c_X9_in l G cI cJ cD cH H.size p3.toInt64 (0 : Int64) (1 : Int64) x7 hx7) gX9_kappa_X9_in rfl rfl rfl (by decide +kernel) ⟨by first | exact Nat.le_of_ble_eq_true rfl | (simp only [headSpec]; omega), by first | exact Nat.le_of_ble_eq_true rfl | (simp only [headSpec]; omega)⟩ hK hP hD hS hA [] (by decide) rfl rfl rfl hl.1 (Nat.le_of_ble_eq_true rfl) dX9_kappa_63 ⟨Nat.zero_le _, Nat.zero_le _⟩ (fun hp7 H locs hP hS => ?_)
  refine lv_if_ne (tgt := 73) hx hb dX9_kappa_66 (by decide) (fun c8 => ?_) (fun c8 => ?_)
  rotate_left
  · have h := it_p h c8
    refine lv_ldc2 (v := (-9223372036854775808 : Int64)) hx hb hown (hta _ mw_709) dX9_kappa_69 ?_
    have h9 := Option.some.inj h
    have e9 : (-9223372036854775808 : Int64) = r0 := congrArg (fun z9 => z9.1) h9
    rw [← e9]
    have e9 : a_t_rows = w0 := congrArg (fun z9 => z9.2) h9
    rw [← e9]
    exact k_lret hx hb hr hlocks hP hS rfl dX9_kappa_72
  have h := it_n h c8
  refine lv_iload_n hx hb dX9_kappa_73 rfl (lv_at hl 1 rfl) ?_
  refine lv_if_ge (tgt := 86) hx hb dX9_kappa_74 (by decide) (fun c11 => ?_) (fun c11 => ?_)
  rotate_left
  · have h := it_n h c11
    refine lv_aload_n hx hb dX9_kappa_77 rfl (lv_at hl 0 rfl) ?_
    obtain ⟨x21, hx21, h⟩ := bd_e h
    try dsimp only at h
    refine k_VlM (n := 0) (As := []) (rest := []) hx hb hml hown hts (c_X9_numberOfMarks l G cI cJ cD cH H.size h_t h_t_rows h_t_powers h_t_tree h_t_ahead h_t_behind h_t_before h_t_met h_t_metSizes h_t_chosen h_t_tape h_t_toldPowers h_t_powerPlaces h_t_toldTree h_t_splitPlaces h_t_layers h_t_paper h_t_held h_t_numbers h_t_sizes h_t_heldLeaves h_t_items h_t_kept t_genus t_marks t_leaves t_splits t_done t_undone t_metMany t_treesSeen t_taped t_place t_isWrong t_toldGenus t_toldMarks t_isTree t_toldLeaves t_leavesPlace t_toldSplits t_isWhy t_papered t_isKept a_t_rows a_t_powers (x21.1) (x21.2) hx21) gX9_kappa_X9_numberOfMarks rfl rfl rfl (by decide +kernel) ⟨by first | exact Nat.le_of_ble_eq_true rfl | (simp only [headSpec]; omega), by first | exact Nat.le_of_ble_eq_true rfl | (simp only [headSpec]; omega)⟩ hK hP hD hS hA [0, 1, 2] (by decide) rfl rfl (ci := 8) rfl rfl rfl rfl rfl hl.1 (Nat.le_of_ble_eq_true rfl) dX9_kappa_78 ⟨Nat.zero_le _, Nat.zero_le _⟩ [(h_t, .inr (8, [.int t_genus, .int t_marks, .ref h_t_powers, .int t_leaves, .int t_splits, .ref h_t_tree, .ref h_t_ahead, .ref h_t_behind, .ref h_t_before, .int t_done, .int t_undone, .ref h_t_rows, .ref h_t_met, .ref h_t_metSizes, .int t_metMany, .int t_treesSeen, .ref h_t_chosen, .ref h_t_tape, .int t_taped, .int t_place, .int t_isWrong, .int t_toldGenus, .int t_toldMarks, .ref h_t_toldPowers, .ref h_t_powerPlaces, .int t_isTree, .int t_toldLeaves, .int t_leavesPlace, .int t_toldSplits, .ref h_t_toldTree, .ref h_t_splitPlaces, .ref h_t_layers, .int t_isWhy, .ref h_t_paper, .int t_papered, .ref h_t_held, .ref h_t_numbers, .ref h_t_sizes, .ref h_t_heldLeaves, .ref h_t_items, .ref h_t_kept, .int t_isKept])), (h_t_rows, .inl (cI, 480, .inl (x21.2))), (h_t_powers, .inl (cI, 8, .inl a_t_powers))] [1, 2, 3] 3 (by decide +kernel) rfl rfl rfl (fun hp21 H locs hP hD hS => ?_)
    refine lv_lstore (lv' := [(5, .long (x21.1)), (0, .ref h_t), (1, .int p0), (2, .int p1), (3, .int p2), (4, .int p3)]) hx hb dX9_kappa_81 hl (by decide) rfl (fun ls hl => ?_)
    refine lv_goto (tgt := 166) hx hb dX9_kappa_83 (by decide) ?_
    exact tJ_X9_kappa_166 hx hb hr hml hts hown hlocks hK hA (x21.2) (x21.1) _ _ _ hP hD hS (lv_sub hl [1, 5, 0] rfl) h
  have h := it_p h c11
  refine lv_iload_n hx hb dX9_kappa_86 rfl (lv_at hl 2 rfl) ?_
  refine lv_if_ge (tgt := 100) hx hb dX9_kappa_87 (by decide) (fun c12 => ?_) (fun c12 => ?_)
  rotate_left
  · have h := it_n h c12
    refine lv_aload_n hx hb dX9_kappa_90 rfl (lv_at hl 0 rfl) ?_
    refine lv_iload_n hx hb dX9_kappa_91 rfl (lv_at hl 1 rfl) ?_
    obtain ⟨x20, hx20, h⟩ := bd_e h
    try dsimp only at h
    refine k_VlM (n := 1) (As := [.int p0]) (rest := []) hx hb hml hown hts (c_X9_kappaOne l G cI cJ cD cH H.size h_t h_t_rows h_t_powers h_t_tree h_t_ahead h_t_behind h_t_before h_t_met h_t_metSizes h_t_chosen h_t_tape h_t_toldPowers h_t_powerPlaces h_t_toldTree h_t_splitPlaces h_t_layers h_t_paper h_t_held h_t_numbers h_t_sizes h_t_heldLeaves h_t_items h_t_kept t_genus t_marks t_leaves t_splits t_done t_undone t_metMany t_treesSeen t_taped t_place t_isWrong t_toldGenus t_toldMarks t_isTree t_toldLeaves t_leavesPlace t_toldSplits t_isWhy t_papered t_isKept a_t_rows a_t_powers p0 (x20.1) (x20.2) hx20) gX9_kappa_X9_kappaOne rfl rfl rfl (by decide +kernel) ⟨by first | exact Nat.le_of_ble_eq_true rfl | (simp only [headSpec]; omega), by first | exact Nat.le_of_ble_eq_true rfl | (simp only [headSpec]; omega)⟩ hK hP hD hS hA [0, 1, 2] (by decide) rfl rfl (ci := 8) rfl rfl rfl rfl rfl hl.1 (Nat.le_of_ble_eq_true rfl) dX9_kappa_92 ⟨Nat.zero_le _, Nat.zero_le _⟩ [(h_t, .inr (8, [.int t_genus, .int t_marks, .ref h_t_powers, .int t_leaves, .int t_splits, .ref h_t_tree, .ref h_t_ahead, .ref h_t_behind, .ref h_t_before, .int t_done, .int t_undone, .ref h_t_rows, .ref h_t_met, .ref h_t_metSizes, .int t_metMany, .int t_treesSeen, .ref h_t_chosen, .ref h_t_tape, .int t_taped, .int t_place, .int t_isWrong, .int t_toldGenus, .int t_toldMarks, .ref h_t_toldPowers, .ref h_t_powerPlaces, .int t_isTree, .int t_toldLeaves, .int t_leavesPlace, .int t_toldSplits, .ref h_t_toldTree, .ref h_t_splitPlaces, .ref h_t_layers, .int t_isWhy, .ref h_t_paper, .int t_papered, .ref h_t_held, .ref h_t_numbers, .ref h_t_sizes, .ref h_t_heldLeaves, .ref h_t_items, .ref h_t_kept, .int t_isKept])), (h_t_rows, .inl (cI, 480, .inl (x20.2))), (h_t_powers, .inl (cI, 8, .inl a_t_powers))] [1, 2, 3] 3 (by decide +kernel) rfl rfl rfl (fun hp20 H locs hP hD hS => ?_)
    refine lv_lstore (lv' := [(5, .long (x20.1)), (0, .ref h_t), (1, .int p0), (2, .int p1), (3, .int p2), (4, .int p3)]) hx hb dX9_kappa_95 hl (by decide) rfl (fun ls hl => ?_)
    refine lv_goto (tgt := 166) hx hb dX9_kappa_97 (by decide) ?_
    exact tJ_X9_kappa_166 hx hb hr hml hts hown hlocks hK hA (x20.2) (x20.1) _ _ _ hP hD hS (lv_sub hl [1, 5, 0] rfl) h
  have h := it_p h c12
  refine lv_iload_n hx hb dX9_kappa_100 rfl (lv_at hl 3 rfl) ?_
  refine lv_if_ge (tgt := 115) hx hb dX9_kappa_101 (by decide) (fun c13 => ?_) (fun c13 => ?_)
  rotate_left
  · have h := it_n h c13
    refine lv_aload_n hx hb dX9_kappa_104 rfl (lv_at hl 0 rfl) ?_
    refine lv_iload_n hx hb dX9_kappa_105 rfl (lv_at hl 1 rfl) ?_
    refine lv_iload_n hx hb dX9_kappa_106 rfl (lv_at hl 2 rfl) ?_
    obtain ⟨x19, hx19, h⟩ := bd_e h
    try dsimp only at h
    refine k_VlM (n := 2) (As := [.int p0, .int p1]) (rest := []) hx hb hml hown hts (c_X9_kappaTwo l G cI cJ cD cH H.size h_t h_t_rows h_t_powers h_t_tree h_t_ahead h_t_behind h_t_before h_t_met h_t_metSizes h_t_chosen h_t_tape h_t_toldPowers h_t_powerPlaces h_t_toldTree h_t_splitPlaces h_t_layers h_t_paper h_t_held h_t_numbers h_t_sizes h_t_heldLeaves h_t_items h_t_kept t_genus t_marks t_leaves t_splits t_done t_undone t_metMany t_treesSeen t_taped t_place t_isWrong t_toldGenus t_toldMarks t_isTree t_toldLeaves t_leavesPlace t_toldSplits t_isWhy t_papered t_isKept a_t_rows a_t_powers p0 p1 (x19.1) (x19.2) hx19) gX9_kappa_X9_kappaTwo rfl rfl rfl (by decide +kernel) ⟨by first | exact Nat.le_of_ble_eq_true rfl | (simp only [headSpec]; omega), by first | exact Nat.le_of_ble_eq_true rfl | (simp only [headSpec]; omega)⟩ hK hP hD hS hA [0, 1, 2] (by decide) rfl rfl (ci := 8) rfl rfl rfl rfl rfl hl.1 (Nat.le_of_ble_eq_true rfl) dX9_kappa_107 ⟨Nat.zero_le _, Nat.zero_le _⟩ [(h_t, .inr (8, [.int t_genus, .int t_marks, .ref h_t_powers, .int t_leaves, .int t_splits, .ref h_t_tree, .ref h_t_ahead, .ref h_t_behind, .ref h_t_before, .int t_done, .int t_undone, .ref h_t_rows, .ref h_t_met, .ref h_t_metSizes, .int t_metMany, .int t_treesSeen, .ref h_t_chosen, .ref h_t_tape, .int t_taped, .int t_place, .int t_isWrong, .int t_toldGenus, .int t_toldMarks, .ref h_t_toldPowers, .ref h_t_powerPlaces, .int t_isTree, .int t_toldLeaves, .int t_leavesPlace, .int t_toldSplits, .ref h_t_toldTree, .ref h_t_splitPlaces, .ref h_t_layers, .int t_isWhy, .ref h_t_paper, .int t_papered, .ref h_t_held, .ref h_t_numbers, .ref h_t_sizes, .ref h_t_heldLeaves, .ref h_t_items, .ref h_t_kept, .int t_isKept])), (h_t_rows, .inl (cI, 480, .inl (x19.2))), (h_t_powers, .inl (cI, 8, .inl a_t_powers))] [1, 2, 3] 3 (by decide +kernel) rfl rfl rfl (fun hp19 H locs hP hD hS => ?_)
    refine lv_lstore (lv' := [(5, .long (x19.1)), (0, .ref h_t), (1, .int p0), (2, .int p1), (3, .int p2), (4, .int p3)]) hx hb dX9_kappa_110 hl (by decide) rfl (fun ls hl => ?_)
    refine lv_goto (tgt := 166) hx hb dX9_kappa_112 (by decide) ?_
    exact tJ_X9_kappa_166 hx hb hr hml hts hown hlocks hK hA (x19.2) (x19.1) _ _ _ hP hD hS (lv_sub hl [1, 5, 0] rfl) h
  have h := it_p h c13
  refine lv_aload_n hx hb dX9_kappa_115 rfl (lv_at hl 0 rfl) ?_
  refine lv_iload_n hx hb dX9_kappa_116 rfl (lv_at hl 1 rfl) ?_
  refine lv_iload_n hx hb dX9_kappa_117 rfl (lv_at hl 2 rfl) ?_
  refine lv_iload_n hx hb dX9_kappa_118 rfl (lv_at hl 3 rfl) ?_
  refine lv_iconst (v := (3 : Int32)) hx hb dX9_kappa_119 (by decide) ?_
  obtain ⟨x14, hx14, h⟩ := bd_e h
  try dsimp only at h
  refine k_VlM (n := 4) (As := [.int p0, .int p1, .int p2, .int (3 : Int32)]) (rest := []) hx hb hml hown hts (c_X9_withMore l G cI cJ cD cH H.size h_t h_t_rows h_t_powers h_t_tree h_t_ahead h_t_behind h_t_before h_t_met h_t_metSizes h_t_chosen h_t_tape h_t_toldPowers h_t_powerPlaces h_t_toldTree h_t_splitPlaces h_t_layers h_t_paper h_t_held h_t_numbers h_t_sizes h_t_heldLeaves h_t_items h_t_kept t_genus t_marks t_leaves t_splits t_done t_undone t_metMany t_treesSeen t_taped t_place t_isWrong t_toldGenus t_toldMarks t_isTree t_toldLeaves t_leavesPlace t_toldSplits t_isWhy t_papered t_isKept a_t_rows a_t_powers p0 p1 p2 (3 : Int32) (x14.1) (x14.2) hx14) gX9_kappa_X9_withMore rfl rfl rfl (by decide +kernel) ⟨by first | exact Nat.le_of_ble_eq_true rfl | (simp only [headSpec]; omega), by first | exact Nat.le_of_ble_eq_true rfl | (simp only [headSpec]; omega)⟩ hK hP hD hS hA [0, 1, 2] (by decide) rfl rfl (ci := 8) rfl rfl rfl rfl rfl hl.1 (Nat.le_of_ble_eq_true rfl) dX9_kappa_120 ⟨Nat.zero_le _, Nat.zero_le _⟩ [(h_t, .inr (8, [.int t_genus, .int t_marks, .ref h_t_powers, .int t_leaves, .int t_splits, .ref h_t_tree, .ref h_t_ahead, .ref h_t_behind, .ref h_t_before, .int t_done, .int t_undone, .ref h_t_rows, .ref h_t_met, .ref h_t_metSizes, .int t_metMany, .int t_treesSeen, .ref h_t_chosen, .ref h_t_tape, .int t_taped, .int t_place, .int t_isWrong, .int t_toldGenus, .int t_toldMarks, .ref h_t_toldPowers, .ref h_t_powerPlaces, .int t_isTree, .int t_toldLeaves, .int t_leavesPlace, .int t_toldSplits, .ref h_t_toldTree, .ref h_t_splitPlaces, .ref h_t_layers, .int t_isWhy, .ref h_t_paper, .int t_papered, .ref h_t_held, .ref h_t_numbers, .ref h_t_sizes, .ref h_t_heldLeaves, .ref h_t_items, .ref h_t_kept, .int t_isKept])), (h_t_rows, .inl (cI, 480, .inl (x14.2))), (h_t_powers, .inl (cI, 8, .inl a_t_powers))] [1, 2, 3] 3 (by decide +kernel) rfl rfl rfl (fun hp14 H locs hP hD hS => ?_)
  refine lv_aload_n hx hb dX9_kappa_123 rfl (lv_at hl 0 rfl) ?_
  refine lv_iload_n hx hb dX9_kappa_124 rfl (lv_at hl 1 rfl) ?_
  refine lv_iload_n hx hb dX9_kappa_125 rfl (lv_at hl 2 rfl) ?_
  refine lv_iadd hx hb dX9_kappa_126 ?_
  refine lv_iload_n hx hb dX9_kappa_127 rfl (lv_at hl 3 rfl) ?_
  obtain ⟨x15, hx15, h⟩ := bd_e h
  try dsimp only at h
  refine k_VlM (n := 2) (As := [.int (p0 + p1), .int p2]) (rest := [.long (x14.1)]) hx hb hml hown hts (c_X9_kappaTwo l G cI cJ cD cH H.size h_t h_t_rows h_t_powers h_t_tree h_t_ahead h_t_behind h_t_before h_t_met h_t_metSizes h_t_chosen h_t_tape h_t_toldPowers h_t_powerPlaces h_t_toldTree h_t_splitPlaces h_t_layers h_t_paper h_t_held h_t_numbers h_t_sizes h_t_heldLeaves h_t_items h_t_kept t_genus t_marks t_leaves t_splits t_done t_undone t_metMany t_treesSeen t_taped t_place t_isWrong t_toldGenus t_toldMarks t_isTree t_toldLeaves t_leavesPlace t_toldSplits t_isWhy t_papered t_isKept (x14.2) a_t_powers (p0 + p1) p2 (x15.1) (x15.2) hx15) gX9_kappa_X9_kappaTwo rfl rfl rfl (by decide +kernel) ⟨by first | exact Nat.le_of_ble_eq_true rfl | (simp only [headSpec]; omega), by first | exact Nat.le_of_ble_eq_true rfl | (simp only [headSpec]; omega)⟩ hK hP hD hS hA [0, 1, 2] (by decide) rfl rfl (ci := 8) rfl rfl rfl rfl rfl hl.1 (Nat.le_of_ble_eq_true rfl) dX9_kappa_128 ⟨Nat.zero_le _, Nat.zero_le _⟩ [(h_t, .inr (8, [.int t_genus, .int t_marks, .ref h_t_powers, .int t_leaves, .int t_splits, .ref h_t_tree, .ref h_t_ahead, .ref h_t_behind, .ref h_t_before, .int t_done, .int t_undone, .ref h_t_rows, .ref h_t_met, .ref h_t_metSizes, .int t_metMany, .int t_treesSeen, .ref h_t_chosen, .ref h_t_tape, .int t_taped, .int t_place, .int t_isWrong, .int t_toldGenus, .int t_toldMarks, .ref h_t_toldPowers, .ref h_t_powerPlaces, .int t_isTree, .int t_toldLeaves, .int t_leavesPlace, .int t_toldSplits, .ref h_t_toldTree, .ref h_t_splitPlaces, .ref h_t_layers, .int t_isWhy, .ref h_t_paper, .int t_papered, .ref h_t_held, .ref h_t_numbers, .ref h_t_sizes, .ref h_t_heldLeaves, .ref h_t_items, .ref h_t_kept, .int t_isKept])), (h_t_rows, .inl (cI, 480, .inl (x15.2))), (h_t_powers, .inl (cI, 8, .inl a_t_powers))] [1, 2, 3] 3 (by decide +kernel) rfl rfl rfl (fun hp15 H locs hP hD hS => ?_)
  refine lv_lsub hx hb dX9_kappa_131 ?_
  refine lv_aload_n hx hb dX9_kappa_132 rfl (lv_at hl 0 rfl) ?_
  refine lv_iload_n hx hb dX9_kappa_133 rfl (lv_at hl 1 rfl) ?_
  refine lv_iload_n hx hb dX9_kappa_134 rfl (lv_at hl 3 rfl) ?_
  refine lv_iadd hx hb dX9_kappa_135 ?_
  refine lv_iload_n hx hb dX9_kappa_136 rfl (lv_at hl 2 rfl) ?_
  obtain ⟨x16, hx16, h⟩ := bd_e h
  try dsimp only at h
  refine k_VlM (n := 2) (As := [.int (p0 + p2), .int p1]) (rest := [.long ((x14.1) - (x15.1))]) hx hb hml hown hts (c_X9_kappaTwo l G cI cJ cD cH H.size h_t h_t_rows h_t_powers h_t_tree h_t_ahead h_t_behind h_t_before h_t_met h_t_metSizes h_t_chosen h_t_tape h_t_toldPowers h_t_powerPlaces h_t_toldTree h_t_splitPlaces h_t_layers h_t_paper h_t_held h_t_numbers h_t_sizes h_t_heldLeaves h_t_items h_t_kept t_genus t_marks t_leaves t_splits t_done t_undone t_metMany t_treesSeen t_taped t_place t_isWrong t_toldGenus t_toldMarks t_isTree t_toldLeaves t_leavesPlace t_toldSplits t_isWhy t_papered t_isKept (x15.2) a_t_powers (p0 + p2) p1 (x16.1) (x16.2) hx16) gX9_kappa_X9_kappaTwo rfl rfl rfl (by decide +kernel) ⟨by first | exact Nat.le_of_ble_eq_true rfl | (simp only [headSpec]; omega), by first | exact Nat.le_of_ble_eq_true rfl | (simp only [headSpec]; omega)⟩ hK hP hD hS hA [0, 1, 2] (by decide) rfl rfl (ci := 8) rfl rfl rfl rfl rfl hl.1 (Nat.le_of_ble_eq_true rfl) dX9_kappa_137 ⟨Nat.zero_le _, Nat.zero_le _⟩ [(h_t, .inr (8, [.int t_genus, .int t_marks, .ref h_t_powers, .int t_leaves, .int t_splits, .ref h_t_tree, .ref h_t_ahead, .ref h_t_behind, .ref h_t_before, .int t_done, .int t_undone, .ref h_t_rows, .ref h_t_met, .ref h_t_metSizes, .int t_metMany, .int t_treesSeen, .ref h_t_chosen, .ref h_t_tape, .int t_taped, .int t_place, .int t_isWrong, .int t_toldGenus, .int t_toldMarks, .ref h_t_toldPowers, .ref h_t_powerPlaces, .int t_isTree, .int t_toldLeaves, .int t_leavesPlace, .int t_toldSplits, .ref h_t_toldTree, .ref h_t_splitPlaces, .ref h_t_layers, .int t_isWhy, .ref h_t_paper, .int t_papered, .ref h_t_held, .ref h_t_numbers, .ref h_t_sizes, .ref h_t_heldLeaves, .ref h_t_items, .ref h_t_kept, .int t_isKept])), (h_t_rows, .inl (cI, 480, .inl (x16.2))), (h_t_powers, .inl (cI, 8, .inl a_t_powers))] [1, 2, 3] 3 (by decide +kernel) rfl rfl rfl (fun hp16 H locs hP hD hS => ?_)
  refine lv_lsub hx hb dX9_kappa_140 ?_
  refine lv_aload_n hx hb dX9_kappa_141 rfl (lv_at hl 0 rfl) ?_
  refine lv_iload_n hx hb dX9_kappa_142 rfl (lv_at hl 2 rfl) ?_
  refine lv_iload_n hx hb dX9_kappa_143 rfl (lv_at hl 3 rfl) ?_
  refine lv_iadd hx hb dX9_kappa_144 ?_
  refine lv_iload_n hx hb dX9_kappa_145 rfl (lv_at hl 1 rfl) ?_
  obtain ⟨x17, hx17, h⟩ := bd_e h
  try dsimp only at h
  refine k_VlM (n := 2) (As := [.int (p1 + p2), .int p0]) (rest := [.long (((x14.1) - (x15.1)) - (x16.1))]) hx hb hml hown hts (c_X9_kappaTwo l G cI cJ cD cH H.size h_t h_t_rows h_t_powers h_t_tree h_t_ahead h_t_behind h_t_before h_t_met h_t_metSizes h_t_chosen h_t_tape h_t_toldPowers h_t_powerPlaces h_t_toldTree h_t_splitPlaces h_t_layers h_t_paper h_t_held h_t_numbers h_t_sizes h_t_heldLeaves h_t_items h_t_kept t_genus t_marks t_leaves t_splits t_done t_undone t_metMany t_treesSeen t_taped t_place t_isWrong t_toldGenus t_toldMarks t_isTree t_toldLeaves t_leavesPlace t_toldSplits t_isWhy t_papered t_isKept (x16.2) a_t_powers (p1 + p2) p0 (x17.1) (x17.2) hx17) gX9_kappa_X9_kappaTwo rfl rfl rfl (by decide +kernel) ⟨by first | exact Nat.le_of_ble_eq_true rfl | (simp only [headSpec]; omega), by first | exact Nat.le_of_ble_eq_true rfl | (simp only [headSpec]; omega)⟩ hK hP hD hS hA [0, 1, 2] (by decide) rfl rfl (ci := 8) rfl rfl rfl rfl rfl hl.1 (Nat.le_of_ble_eq_true rfl) dX9_kappa_146 ⟨Nat.zero_le _, Nat.zero_le _⟩ [(h_t, .inr (8, [.int t_genus, .int t_marks, .ref h_t_powers, .int t_leaves, .int t_splits, .ref h_t_tree, .ref h_t_ahead, .ref h_t_behind, .ref h_t_before, .int t_done, .int t_undone, .ref h_t_rows, .ref h_t_met, .ref h_t_metSizes, .int t_metMany, .int t_treesSeen, .ref h_t_chosen, .ref h_t_tape, .int t_taped, .int t_place, .int t_isWrong, .int t_toldGenus, .int t_toldMarks, .ref h_t_toldPowers, .ref h_t_powerPlaces, .int t_isTree, .int t_toldLeaves, .int t_leavesPlace, .int t_toldSplits, .ref h_t_toldTree, .ref h_t_splitPlaces, .ref h_t_layers, .int t_isWhy, .ref h_t_paper, .int t_papered, .ref h_t_held, .ref h_t_numbers, .ref h_t_sizes, .ref h_t_heldLeaves, .ref h_t_items, .ref h_t_kept, .int t_isKept])), (h_t_rows, .inl (cI, 480, .inl (x17.2))), (h_t_powers, .inl (cI, 8, .inl a_t_powers))] [1, 2, 3] 3 (by decide +kernel) rfl rfl rfl (fun hp17 H locs hP hD hS => ?_)
  refine lv_lsub hx hb dX9_kappa_149 ?_
  refine lv_ldc2 (v := (2 : Int64)) hx hb hown (hta _ mw_660) dX9_kappa_150 ?_
  refine lv_aload_n hx hb dX9_kappa_153 rfl (lv_at hl 0 rfl) ?_
  refine lv_iload_n hx hb dX9_kappa_154 rfl (lv_at hl 1 rfl) ?_
  refine lv_iload_n hx hb dX9_kappa_155 rfl (lv_at hl 2 rfl) ?_
  refine lv_iadd hx hb dX9_kappa_156 ?_
  refine lv_iload_n hx hb dX9_kappa_157 rfl (lv_at hl 3 rfl) ?_
  refine lv_iadd hx hb dX9_kappa_158 ?_
  obtain ⟨x18, hx18, h⟩ := bd_e h
  try dsimp only at h
  refine k_VlM (n := 1) (As := [.int ((p0 + p1) + p2)]) (rest := [.long (2 : Int64), .long ((((x14.1) - (x15.1)) - (x16.1)) - (x17.1))]) hx hb hml hown hts (c_X9_kappaOne l G cI cJ cD cH H.size h_t h_t_rows h_t_powers h_t_tree h_t_ahead h_t_behind h_t_before h_t_met h_t_metSizes h_t_chosen h_t_tape h_t_toldPowers h_t_powerPlaces h_t_toldTree h_t_splitPlaces h_t_layers h_t_paper h_t_held h_t_numbers h_t_sizes h_t_heldLeaves h_t_items h_t_kept t_genus t_marks t_leaves t_splits t_done t_undone t_metMany t_treesSeen t_taped t_place t_isWrong t_toldGenus t_toldMarks t_isTree t_toldLeaves t_leavesPlace t_toldSplits t_isWhy t_papered t_isKept (x17.2) a_t_powers ((p0 + p1) + p2) (x18.1) (x18.2) hx18) gX9_kappa_X9_kappaOne rfl rfl rfl (by decide +kernel) ⟨by first | exact Nat.le_of_ble_eq_true rfl | (simp only [headSpec]; omega), by first | exact Nat.le_of_ble_eq_true rfl | (simp only [headSpec]; omega)⟩ hK hP hD hS hA [0, 1, 2] (by decide) rfl rfl (ci := 8) rfl rfl rfl rfl rfl hl.1 (Nat.le_of_ble_eq_true rfl) dX9_kappa_159 ⟨Nat.zero_le _, Nat.zero_le _⟩ [(h_t, .inr (8, [.int t_genus, .int t_marks, .ref h_t_powers, .int t_leaves, .int t_splits, .ref h_t_tree, .ref h_t_ahead, .ref h_t_behind, .ref h_t_before, .int t_done, .int t_undone, .ref h_t_rows, .ref h_t_met, .ref h_t_metSizes, .int t_metMany, .int t_treesSeen, .ref h_t_chosen, .ref h_t_tape, .int t_taped, .int t_place, .int t_isWrong, .int t_toldGenus, .int t_toldMarks, .ref h_t_toldPowers, .ref h_t_powerPlaces, .int t_isTree, .int t_toldLeaves, .int t_leavesPlace, .int t_toldSplits, .ref h_t_toldTree, .ref h_t_splitPlaces, .ref h_t_layers, .int t_isWhy, .ref h_t_paper, .int t_papered, .ref h_t_held, .ref h_t_numbers, .ref h_t_sizes, .ref h_t_heldLeaves, .ref h_t_items, .ref h_t_kept, .int t_isKept])), (h_t_rows, .inl (cI, 480, .inl (x18.2))), (h_t_powers, .inl (cI, 8, .inl a_t_powers))] [1, 2, 3] 3 (by decide +kernel) rfl rfl rfl (fun hp18 H locs hP hD hS => ?_)
  refine lv_lmul hx hb dX9_kappa_162 ?_
  refine lv_lsub hx hb dX9_kappa_163 ?_
  refine lv_lstore (lv' := [(5, .long (((((x14.1) - (x15.1)) - (x16.1)) - (x17.1)) - ((2 : Int64) * (x18.1)))), (0, .ref h_t), (1, .int p0), (2, .int p1), (3, .int p2), (4, .int p3)]) hx hb dX9_kappa_164 hl (by decide) rfl (fun ls hl => ?_)
  exact tJ_X9_kappa_166 hx hb hr hml hts hown hlocks hK hA (x18.2) (((((x14.1) - (x15.1)) - (x16.1)) - (x17.1)) - ((2 : Int64) * (x18.1))) _ _ _ hP hD hS (lv_sub hl [1, 5, 0] rfl) h
set_option maxHeartbeats 4000000 in
set_option maxRecDepth 100000 in
theorem tJ_X9_kappa_50 {l : Launch} {G : va_G} {cI cJ cD cH : ClassId} {h_t : Nat} {h_t_rows : Nat} {h_t_powers : Nat} {h_t_tree : Nat} {h_t_ahead : Nat} {h_t_behind : Nat} {h_t_before : Nat} {h_t_met : Nat} {h_t_metSizes : Nat} {h_t_chosen : Nat} {h_t_tape : Nat} {h_t_toldPowers : Nat} {h_t_powerPlaces : Nat} {h_t_toldTree : Nat} {h_t_splitPlaces : Nat} {h_t_layers : Nat} {h_t_paper : Nat} {h_t_held : Nat} {h_t_numbers : Nat} {h_t_sizes : Nat} {h_t_heldLeaves : Nat} {h_t_items : Nat} {h_t_kept : Nat} {t_genus : Int32} {t_marks : Int32} {t_leaves : Int32} {t_splits : Int32} {t_done : Int32} {t_undone : Int32} {t_metMany : Int32} {t_treesSeen : Int32} {t_taped : Int32} {t_place : Int32} {t_isWrong : Int32} {t_toldGenus : Int32} {t_toldMarks : Int32} {t_isTree : Int32} {t_toldLeaves : Int32} {t_leavesPlace : Int32} {t_toldSplits : Int32} {t_isWhy : Int32} {t_papered : Int32} {t_isKept : Int32} {a_t_rows : Nat → Int32} {a_t_powers : Nat → Int32} {p0 : Int32} {p1 : Int32} {p2 : Int32} {p3 : Int32} {r0 : Int64} {w0 : Nat → Int32} {p : Program} {e : Env} {s : State} {m : MethodId} {below : List Frame} {meth : Method} {c : Code} {A : Nat → Prop} (hx : p.tables.exec = Jvm.exec) (hb : c.code = cX9_kappa) (hr : meth.sig.returnType = (some .long)) (hml : c.maxLocals = 7) (hts : ∀ w ∈ wsX9_kappa, w.before ([.ref h_t, .int p0, .int p1, .int p2, .int p3] : List Value).toArray s = true) (hown : s.vm.findClass RX9 = some m.cls) (hlocks : meth.locks = false) (hK : va_K G vwCl (k_T cI cJ cD cH) s) (hA : ∀ q : Nat, s.heap.size ≤ q → A q) : ∀ (H : Heap) (locs : List Loc) (ls : Array Slot), va_P G vwCl [(h_t, .inr (8, [.int t_genus, .int t_marks, .ref h_t_powers, .int t_leaves, .int t_splits, .ref h_t_tree, .ref h_t_ahead, .ref h_t_behind, .ref h_t_before, .int t_done, .int t_undone, .ref h_t_rows, .ref h_t_met, .ref h_t_metSizes, .int t_metMany, .int t_treesSeen, .ref h_t_chosen, .ref h_t_tape, .int t_taped, .int t_place, .int t_isWrong, .int t_toldGenus, .int t_toldMarks, .ref h_t_toldPowers, .ref h_t_powerPlaces, .int t_isTree, .int t_toldLeaves, .int t_leavesPlace, .int t_toldSplits, .ref h_t_toldTree, .ref h_t_splitPlaces, .ref h_t_layers, .int t_isWhy, .ref h_t_paper, .int t_papered, .ref h_t_held, .ref h_t_numbers, .ref h_t_sizes, .ref h_t_heldLeaves, .ref h_t_items, .ref h_t_kept, .int t_isKept])), (h_t_rows, .inl (cI, 480, .inl a_t_rows)), (h_t_powers, .inl (cI, 8, .inl a_t_powers))] H → va_D A [(h_t, .inr (8, [.int t_genus, .int t_marks, .ref h_t_powers, .int t_leaves, .int t_splits, .ref h_t_tree, .ref h_t_ahead, .ref h_t_behind, .ref h_t_before, .int t_done, .int t_undone, .ref h_t_rows, .ref h_t_met, .ref h_t_metSizes, .int t_metMany, .int t_treesSeen, .ref h_t_chosen, .ref h_t_tape, .int t_taped, .int t_place, .int t_isWrong, .int t_toldGenus, .int t_toldMarks, .ref h_t_toldPowers, .ref h_t_powerPlaces, .int t_isTree, .int t_toldLeaves, .int t_leavesPlace, .int t_toldSplits, .ref h_t_toldTree, .ref h_t_splitPlaces, .ref h_t_layers, .int t_isWhy, .ref h_t_paper, .int t_papered, .ref h_t_held, .ref h_t_numbers, .ref h_t_sizes, .ref h_t_heldLeaves, .ref h_t_items, .ref h_t_kept, .int t_isKept])), (h_t_rows, .inl (cI, 480, .inl a_t_rows)), (h_t_powers, .inl (cI, 8, .inl a_t_powers))] → va_S A s.heap H locs → lv_has ls 7 [(0, .ref h_t), (1, .int p0), (2, .int p1), (3, .int p2), (4, .int p3)] → J_X9_kappa_50 t_genus t_marks a_t_rows a_t_powers p0 p1 p2 p3 = some (r0, w0) → W p l e (headSpec wsX9_kappa ({ frames := 23, cells := 0, slots := 0, locals := 648 })).room s m ([.ref h_t, .int p0, .int p1, .int p2, .int p3] : List Value).toArray below meth c H locs 0 0 (MQ below (va_Ql (fun r (_ : Unit) => r = r0 ∧ True) (fun _ t => va_P G vwCl [(h_t, .inr (8, [.int t_genus, .int t_marks, .ref h_t_powers, .int t_leaves, .int t_splits, .ref h_t_tree, .ref h_t_ahead, .ref h_t_behind, .ref h_t_before, .int t_done, .int t_undone, .ref h_t_rows, .ref h_t_met, .ref h_t_metSizes, .int t_metMany, .int t_treesSeen, .ref h_t_chosen, .ref h_t_tape, .int t_taped, .int t_place, .int t_isWrong, .int t_toldGenus, .int t_toldMarks, .ref h_t_toldPowers, .ref h_t_powerPlaces, .int t_isTree, .int t_toldLeaves, .int t_leavesPlace, .int t_toldSplits, .ref h_t_toldTree, .ref h_t_splitPlaces, .ref h_t_layers, .int t_isWhy, .ref h_t_paper, .int t_papered, .ref h_t_held, .ref h_t_numbers, .ref h_t_sizes, .ref h_t_heldLeaves, .ref h_t_items, .ref h_t_kept, .int t_isKept])), (h_t_rows, .inl (cI, 480, .inl w0)), (h_t_powers, .inl (cI, 8, .inl a_t_powers))] t.heap) A) ([.ref h_t, .int p0, .int p1, .int p2, .int p3] : List Value).toArray s 0 0 A) (F0 m 50 ls []) := by
  have hta : ∀ w ∈ wA, w.before ([.ref h_t, .int p0, .int p1, .int p2, .int p3] : List Value).toArray s = true := hta_of hts
  have hinX9 : ∀ w ∈ wsX90, w ∈ wsX9_kappa := hin_of in_X9
  intro  H locs ls hP hD hS hl h
  unfold J_X9_kappa_50 at h
  refine lv_iload_n hx hb dX9_kappa_50 rfl (lv_at hl 2 rfl) ?_
  refine lv_if_ge (tgt := 58) hx hb dX9_kappa_51 (by decide) (fun c22 => ?_) (fun c22 => ?_)
  · have h := it_p h c22
    exact tJ_X9_kappa_58 hx hb hr hml hts hown hlocks hK hA  _ _ _ hP hD hS (lv_sub hl [0, 1, 2, 3, 4] rfl) h
  have h := it_n h c22
  refine lv_iload_n hx hb dX9_kappa_54 rfl (lv_at hl 3 rfl) ?_
  refine lv_if_ge (tgt := 69) hx hb dX9_kappa_55 (by decide) (fun c23 => ?_) (fun c23 => ?_)
  rotate_left
  · have h := it_n h c23
    exact tJ_X9_kappa_58 hx hb hr hml hts hown hlocks hK hA  _ _ _ hP hD hS (lv_sub hl [0, 1, 2, 3, 4] rfl) h
  have h := it_p h c23
  refine lv_ldc2 (v := (-9223372036854775808 : Int64)) hx hb hown (hta _ mw_709) dX9_kappa_69 ?_
  have h9 := Option.some.inj h
  have e9 : (-9223372036854775808 : Int64) = r0 := congrArg (fun z9 => z9.1) h9
  rw [← e9]
  have e9 : a_t_rows = w0 := congrArg (fun z9 => z9.2) h9
  rw [← e9]
  exact k_lret hx hb hr hlocks hP hS rfl dX9_kappa_72
set_option maxHeartbeats 4000000 in
set_option maxRecDepth 100000 in
theorem c_X9_kappa (l : Launch) (G : va_G) (cI cJ cD cH : ClassId) (sz : Nat) (h_t : Nat) (h_t_rows : Nat) (h_t_powers : Nat) (h_t_tree : Nat) (h_t_ahead : Nat) (h_t_behind : Nat) (h_t_before : Nat) (h_t_met : Nat) (h_t_metSizes : Nat) (h_t_chosen : Nat) (h_t_tape : Nat) (h_t_toldPowers : Nat) (h_t_powerPlaces : Nat) (h_t_toldTree : Nat) (h_t_splitPlaces : Nat) (h_t_layers : Nat) (h_t_paper : Nat) (h_t_held : Nat) (h_t_numbers : Nat) (h_t_sizes : Nat) (h_t_heldLeaves : Nat) (h_t_items : Nat) (h_t_kept : Nat) (t_genus : Int32) (t_marks : Int32) (t_leaves : Int32) (t_splits : Int32) (t_done : Int32) (t_undone : Int32) (t_metMany : Int32) (t_treesSeen : Int32) (t_taped : Int32) (t_place : Int32) (t_isWrong : Int32) (t_toldGenus : Int32) (t_toldMarks : Int32) (t_isTree : Int32) (t_toldLeaves : Int32) (t_leavesPlace : Int32) (t_toldSplits : Int32) (t_isWhy : Int32) (t_papered : Int32) (t_isKept : Int32) (a_t_rows : Nat → Int32) (a_t_powers : Nat → Int32) (p0 : Int32) (p1 : Int32) (p2 : Int32) (p3 : Int32) (r0 : Int64) (w0 : Nat → Int32) (hF : F_X9_kappa t_genus t_marks a_t_rows a_t_powers p0 p1 p2 p3 = some (r0, w0)) : Met l yX9_kappa wsX9_kappa ({ frames := 23, cells := 0, slots := 0, locals := 648 }) (k_pre G (k_T cI cJ cD cH) [(h_t, .inr (8, [.int t_genus, .int t_marks, .ref h_t_powers, .int t_leaves, .int t_splits, .ref h_t_tree, .ref h_t_ahead, .ref h_t_behind, .ref h_t_before, .int t_done, .int t_undone, .ref h_t_rows, .ref h_t_met, .ref h_t_metSizes, .int t_metMany, .int t_treesSeen, .ref h_t_chosen, .ref h_t_tape, .int t_taped, .int t_place, .int t_isWrong, .int t_toldGenus, .int t_toldMarks, .ref h_t_toldPowers, .ref h_t_powerPlaces, .int t_isTree, .int t_toldLeaves, .int t_leavesPlace, .int t_toldSplits, .ref h_t_toldTree, .ref h_t_splitPlaces, .ref h_t_layers, .int t_isWhy, .ref h_t_paper, .int t_papered, .ref h_t_held, .ref h_t_numbers, .ref h_t_sizes, .ref h_t_heldLeaves, .ref h_t_items, .ref h_t_kept, .int t_isKept])), (h_t_rows, .inl (cI, 480, .inl a_t_rows)), (h_t_powers, .inl (cI, 8, .inl a_t_powers))] sz [.ref h_t, .int p0, .int p1, .int p2, .int p3]) (va_Ql (fun r (_ : Unit) => r = r0 ∧ True) (fun _ t => va_P G vwCl [(h_t, .inr (8, [.int t_genus, .int t_marks, .ref h_t_powers, .int t_leaves, .int t_splits, .ref h_t_tree, .ref h_t_ahead, .ref h_t_behind, .ref h_t_before, .int t_done, .int t_undone, .ref h_t_rows, .ref h_t_met, .ref h_t_metSizes, .int t_metMany, .int t_treesSeen, .ref h_t_chosen, .ref h_t_tape, .int t_taped, .int t_place, .int t_isWrong, .int t_toldGenus, .int t_toldMarks, .ref h_t_toldPowers, .ref h_t_powerPlaces, .int t_isTree, .int t_toldLeaves, .int t_leavesPlace, .int t_toldSplits, .ref h_t_toldTree, .ref h_t_splitPlaces, .ref h_t_layers, .int t_isWhy, .ref h_t_paper, .int t_papered, .ref h_t_held, .ref h_t_numbers, .ref h_t_sizes, .ref h_t_heldLeaves, .ref h_t_items, .ref h_t_kept, .int t_isKept])), (h_t_rows, .inl (cI, 480, .inl w0)), (h_t_powers, .inl (cI, 8, .inl a_t_powers))] t.heap) (va_A [(h_t, .inr (8, [.int t_genus, .int t_marks, .ref h_t_powers, .int t_leaves, .int t_splits, .ref h_t_tree, .ref h_t_ahead, .ref h_t_behind, .ref h_t_before, .int t_done, .int t_undone, .ref h_t_rows, .ref h_t_met, .ref h_t_metSizes, .int t_metMany, .int t_treesSeen, .ref h_t_chosen, .ref h_t_tape, .int t_taped, .int t_place, .int t_isWrong, .int t_toldGenus, .int t_toldMarks, .ref h_t_toldPowers, .ref h_t_powerPlaces, .int t_isTree, .int t_toldLeaves, .int t_leavesPlace, .int t_toldSplits, .ref h_t_toldTree, .ref h_t_splitPlaces, .ref h_t_layers, .int t_isWhy, .ref h_t_paper, .int t_papered, .ref h_t_held, .ref h_t_numbers, .ref h_t_sizes, .ref h_t_heldLeaves, .ref h_t_items, .ref h_t_kept, .int t_isKept])), (h_t_rows, .inl (cI, 480, .inl a_t_rows)), (h_t_powers, .inl (cI, 8, .inl a_t_powers))] sz)) 0 0 (va_A [(h_t, .inr (8, [.int t_genus, .int t_marks, .ref h_t_powers, .int t_leaves, .int t_splits, .ref h_t_tree, .ref h_t_ahead, .ref h_t_behind, .ref h_t_before, .int t_done, .int t_undone, .ref h_t_rows, .ref h_t_met, .ref h_t_metSizes, .int t_metMany, .int t_treesSeen, .ref h_t_chosen, .ref h_t_tape, .int t_taped, .int t_place, .int t_isWrong, .int t_toldGenus, .int t_toldMarks, .ref h_t_toldPowers, .ref h_t_powerPlaces, .int t_isTree, .int t_toldLeaves, .int t_leavesPlace, .int t_toldSplits, .ref h_t_toldTree, .ref h_t_splitPlaces, .ref h_t_layers, .int t_isWhy, .ref h_t_paper, .int t_papered, .ref h_t_held, .ref h_t_numbers, .ref h_t_sizes, .ref h_t_heldLeaves, .ref h_t_items, .ref h_t_kept, .int t_isKept])), (h_t_rows, .inl (cI, 480, .inl a_t_rows)), (h_t_powers, .inl (cI, 8, .inl a_t_powers))] sz) := by
  refine Met.ofW (cc := cX9_kappa) (maxL := 7) (ret := (some .long)) (by decide) rfl ?_
  intro p e s m args below meth c s₁ B hml hv
  obtain ⟨rfl, hsz, hP, hK, hD0⟩ := hv
  have hx := B.exec
  have hb := B.bytes
  have hr := B.returns
  have hts := atoms_spec (ws := wsX9_kappa) B.pre
  have hta : ∀ w ∈ wA, w.before ([.ref h_t, .int p0, .int p1, .int p2, .int p3] : List Value).toArray s = true := hta_of hts
  have hown : s.vm.findClass RX9 = some m.cls := findClass_of_methodNamed B.named
  have hlocks := B.notSynchronized
  subst hsz
  have hD := hD0.self (sz := s.heap.size)
  generalize hAe : va_A [(h_t, .inr (8, [.int t_genus, .int t_marks, .ref h_t_powers, .int t_leaves, .int t_splits, .ref h_t_tree, .ref h_t_ahead, .ref h_t_behind, .ref h_t_before, .int t_done, .int t_undone, .ref h_t_rows, .ref h_t_met, .ref h_t_metSizes, .int t_metMany, .int t_treesSeen, .ref h_t_chosen, .ref h_t_tape, .int t_taped, .int t_place, .int t_isWrong, .int t_toldGenus, .int t_toldMarks, .ref h_t_toldPowers, .ref h_t_powerPlaces, .int t_isTree, .int t_toldLeaves, .int t_leavesPlace, .int t_toldSplits, .ref h_t_toldTree, .ref h_t_splitPlaces, .ref h_t_layers, .int t_isWhy, .ref h_t_paper, .int t_papered, .ref h_t_held, .ref h_t_numbers, .ref h_t_sizes, .ref h_t_heldLeaves, .ref h_t_items, .ref h_t_kept, .int t_isKept])), (h_t_rows, .inl (cI, 480, .inl a_t_rows)), (h_t_powers, .inl (cI, 8, .inl a_t_powers))] s.heap.size = A at hD ⊢
  have hA : ∀ q : Nat, s.heap.size ≤ q → A q := fun q h => by rw [← hAe]; exact Or.inr h
  have hS : va_S A s.heap s.heap [] := va_S.rf
  have hl := lv_entry ([.ref h_t, .int p0, .int p1, .int p2, .int p3]) (n := 7) (Nat.le_of_ble_eq_true rfl)
  rw [lg_entry_eq]
  generalize (lg_sl ([.ref h_t, .int p0, .int p1, .int p2, .int p3]) ++ List.replicate (7 - (lg_sl ([.ref h_t, .int p0, .int p1, .int p2, .int p3])).length) Slot.unset).toArray = ls at hl ⊢
  have hl : lv_has ls 7 [(0, .ref h_t), (1, .int p0), (2, .int p1), (3, .int p2), (4, .int p3)] := hl
  have hinX9 : ∀ w ∈ wsX90, w ∈ wsX9_kappa := hin_of in_X9
  have h := hF
  unfold F_X9_kappa at h
  refine lv_iload_n hx hb dX9_kappa_0 rfl (lv_at hl 1 rfl) ?_
  refine lv_i2l (v := p0.toInt64) hx hb dX9_kappa_1 (by first | rfl | decide) ?_
  refine lv_ldc2 (v := (-1 : Int64)) hx hb hown (hta _ mw_686) dX9_kappa_2 ?_
  refine lv_ldc2 (v := (9 : Int64)) hx hb hown (hta _ mw_738) dX9_kappa_5 ?_
  obtain ⟨x1, hx1, h⟩ := bd_e h
  try dsimp only at h
  refine k_SiU (n := 3) (As := [.long p0.toInt64, .long (-1 : Int64), .long (9 : Int64)]) (rest := []) hx hb hml hown hts (c_X9_in l G cI cJ cD cH s.heap.size p0.toInt64 (-1 : Int64) (9 : Int64) x1 hx1) gX9_kappa_X9_in rfl rfl rfl (by decide +kernel) ⟨by first | exact Nat.le_of_ble_eq_true rfl | (simp only [headSpec]; omega), by first | exact Nat.le_of_ble_eq_true rfl | (simp only [headSpec]; omega)⟩ hK hP hD hS hA [] (by decide) rfl rfl rfl hl.1 (Nat.le_of_ble_eq_true rfl) dX9_kappa_8 ⟨Nat.zero_le _, Nat.zero_le _⟩ (fun hp1 H locs hP hS => ?_)
  refine lv_if_eq (tgt := 69) hx hb dX9_kappa_11 (by decide) (fun c2 => ?_) (fun c2 => ?_)
  · have h := it_p h c2
    refine lv_ldc2 (v := (-9223372036854775808 : Int64)) hx hb hown (hta _ mw_709) dX9_kappa_69 ?_
    have h9 := Option.some.inj h
    have e9 : (-9223372036854775808 : Int64) = r0 := congrArg (fun z9 => z9.1) h9
    rw [← e9]
    have e9 : a_t_rows = w0 := congrArg (fun z9 => z9.2) h9
    rw [← e9]
    exact k_lret hx hb hr hlocks hP hS rfl dX9_kappa_72
  have h := it_n h c2
  refine lv_iload_n hx hb dX9_kappa_14 rfl (lv_at hl 2 rfl) ?_
  refine lv_i2l (v := p1.toInt64) hx hb dX9_kappa_15 (by first | rfl | decide) ?_
  refine lv_ldc2 (v := (-1 : Int64)) hx hb hown (hta _ mw_686) dX9_kappa_16 ?_
  refine lv_ldc2 (v := (9 : Int64)) hx hb hown (hta _ mw_738) dX9_kappa_19 ?_
  obtain ⟨x3, hx3, h⟩ := bd_e h
  try dsimp only at h
  refine k_SiU (n := 3) (As := [.long p1.toInt64, .long (-1 : Int64), .long (9 : Int64)]) (rest := []) hx hb hml hown hts (c_X9_in l G cI cJ cD cH H.size p1.toInt64 (-1 : Int64) (9 : Int64) x3 hx3) gX9_kappa_X9_in rfl rfl rfl (by decide +kernel) ⟨by first | exact Nat.le_of_ble_eq_true rfl | (simp only [headSpec]; omega), by first | exact Nat.le_of_ble_eq_true rfl | (simp only [headSpec]; omega)⟩ hK hP hD hS hA [] (by decide) rfl rfl rfl hl.1 (Nat.le_of_ble_eq_true rfl) dX9_kappa_22 ⟨Nat.zero_le _, Nat.zero_le _⟩ (fun hp3 H locs hP hS => ?_)
  refine lv_if_eq (tgt := 69) hx hb dX9_kappa_25 (by decide) (fun c4 => ?_) (fun c4 => ?_)
  · have h := it_p h c4
    refine lv_ldc2 (v := (-9223372036854775808 : Int64)) hx hb hown (hta _ mw_709) dX9_kappa_69 ?_
    have h9 := Option.some.inj h
    have e9 : (-9223372036854775808 : Int64) = r0 := congrArg (fun z9 => z9.1) h9
    rw [← e9]
    have e9 : a_t_rows = w0 := congrArg (fun z9 => z9.2) h9
    rw [← e9]
    exact k_lret hx hb hr hlocks hP hS rfl dX9_kappa_72
  have h := it_n h c4
  refine lv_iload_n hx hb dX9_kappa_28 rfl (lv_at hl 3 rfl) ?_
  refine lv_i2l (v := p2.toInt64) hx hb dX9_kappa_29 (by first | rfl | decide) ?_
  refine lv_ldc2 (v := (-1 : Int64)) hx hb hown (hta _ mw_686) dX9_kappa_30 ?_
  refine lv_ldc2 (v := (9 : Int64)) hx hb hown (hta _ mw_738) dX9_kappa_33 ?_
  obtain ⟨x5, hx5, h⟩ := bd_e h
  try dsimp only at h
  refine k_SiU (n := 3) (As := [.long p2.toInt64, .long (-1 : Int64), .long (9 : Int64)]) (rest := []) hx hb hml hown hts (c_X9_in l G cI cJ cD cH H.size p2.toInt64 (-1 : Int64) (9 : Int64) x5 hx5) gX9_kappa_X9_in rfl rfl rfl (by decide +kernel) ⟨by first | exact Nat.le_of_ble_eq_true rfl | (simp only [headSpec]; omega), by first | exact Nat.le_of_ble_eq_true rfl | (simp only [headSpec]; omega)⟩ hK hP hD hS hA [] (by decide) rfl rfl rfl hl.1 (Nat.le_of_ble_eq_true rfl) dX9_kappa_36 ⟨Nat.zero_le _, Nat.zero_le _⟩ (fun hp5 H locs hP hS => ?_)
  refine lv_if_eq (tgt := 69) hx hb dX9_kappa_39 (by decide) (fun c6 => ?_) (fun c6 => ?_)
  · have h := it_p h c6
    refine lv_ldc2 (v := (-9223372036854775808 : Int64)) hx hb hown (hta _ mw_709) dX9_kappa_69 ?_
    have h9 := Option.some.inj h
    have e9 : (-9223372036854775808 : Int64) = r0 := congrArg (fun z9 => z9.1) h9
    rw [← e9]
    have e9 : a_t_rows = w0 := congrArg (fun z9 => z9.2) h9
    rw [← e9]
    exact k_lret hx hb hr hlocks hP hS rfl dX9_kappa_72
  have h := it_n h c6
  refine lv_iload_n hx hb dX9_kappa_42 rfl (lv_at hl 1 rfl) ?_
  refine lv_if_ge (tgt := 50) hx hb dX9_kappa_43 (by decide) (fun c24 => ?_) (fun c24 => ?_)
  · have h := it_p h c24
    exact tJ_X9_kappa_50 hx hb hr hml hts hown hlocks hK hA  _ _ _ hP hD hS (lv_sub hl [0, 1, 2, 3, 4] rfl) h
  have h := it_n h c24
  refine lv_iload_n hx hb dX9_kappa_46 rfl (lv_at hl 2 rfl) ?_
  refine lv_if_ge (tgt := 69) hx hb dX9_kappa_47 (by decide) (fun c25 => ?_) (fun c25 => ?_)
  rotate_left
  · have h := it_n h c25
    exact tJ_X9_kappa_50 hx hb hr hml hts hown hlocks hK hA  _ _ _ hP hD hS (lv_sub hl [0, 1, 2, 3, 4] rfl) h
  have h := it_p h c25
  refine lv_ldc2 (v := (-9223372036854775808 : Int64)) hx hb hown (hta _ mw_709) dX9_kappa_69 ?_
  have h9 := Option.some.inj h
  have e9 : (-9223372036854775808 : Int64) = r0 := congrArg (fun z9 => z9.1) h9
  rw [← e9]
  have e9 : a_t_rows = w0 := congrArg (fun z9 => z9.2) h9
  rw [← e9]
  exact k_lret hx hb hr hlocks hP hS rfl dX9_kappa_72

/-! X9_isSplit -/
set_option maxHeartbeats 4000000 in
set_option maxRecDepth 100000 in
theorem c_X9_isSplit (l : Launch) (G : va_G) (cI cJ cD cH : ClassId) (sz : Nat) (p0 : Int32) (p1 : Int32) (r0 : Int32) (hF : F_X9_isSplit p0 p1 = some r0) : Met l yX9_isSplit wsX9_isSplit ({ frames := 1, cells := 0, slots := 0, locals := 25 }) (k_pre G (k_T cI cJ cD cH) [] sz [.int p0, .int p1]) (va_Qi (fun r (_ : Unit) => r = r0 ∧ narrow .boolean (.int r0) = .int r0) (fun _ t => va_P G vwCl [] t.heap) (va_A [] sz)) 0 0 (va_A [] sz) := by
  refine Met.ofW (cc := cX9_isSplit) (maxL := 2) (ret := (some .boolean)) (by decide) rfl ?_
  intro p e s m args below meth c s₁ B hml hv
  obtain ⟨rfl, hsz, hP, hK, hD0⟩ := hv
  have hx := B.exec
  have hb := B.bytes
  have hr := B.returns
  have hts := atoms_spec (ws := wsX9_isSplit) B.pre
  have hta : ∀ w ∈ wA, w.before ([.int p0, .int p1] : List Value).toArray s = true := hta_of hts
  have hown : s.vm.findClass RX9 = some m.cls := findClass_of_methodNamed B.named
  have hlocks := B.notSynchronized
  subst hsz
  have hD := hD0.self (sz := s.heap.size)
  generalize hAe : va_A [] s.heap.size = A at hD ⊢
  have hA : ∀ q : Nat, s.heap.size ≤ q → A q := fun q h => by rw [← hAe]; exact Or.inr h
  have hS : va_S A s.heap s.heap [] := va_S.rf
  have hl := lv_entry ([.int p0, .int p1]) (n := 2) (Nat.le_of_ble_eq_true rfl)
  rw [lg_entry_eq]
  generalize (lg_sl ([.int p0, .int p1]) ++ List.replicate (2 - (lg_sl ([.int p0, .int p1])).length) Slot.unset).toArray = ls at hl ⊢
  have hl : lv_has ls 2 [(0, .int p0), (1, .int p1)] := hl
  have h := hF
  unfold F_X9_isSplit at h
  refine lv_iload_n hx hb dX9_isSplit_0 rfl (lv_at hl 0 rfl) ?_
  refine lv_i2l (v := p0.toInt64) hx hb dX9_isSplit_1 (by first | rfl | decide) ?_
  refine lv_lconst (v := (0 : Int64)) hx hb dX9_isSplit_2 (by decide) ?_
  refine lv_iconst (v := (1 : Int32)) hx hb dX9_isSplit_3 (by decide) ?_
  refine lv_iload_n hx hb dX9_isSplit_4 rfl (lv_at hl 1 rfl) ?_
  refine lv_ishl hx hb dX9_isSplit_5 ?_
  refine lv_iconst (v := (1 : Int32)) hx hb dX9_isSplit_6 (by decide) ?_
  refine lv_isub hx hb dX9_isSplit_7 ?_
  refine lv_i2l (v := (((1 : Int32) <<< (p1 &&& 31)) - (1 : Int32)).toInt64) hx hb dX9_isSplit_8 (by first | rfl | decide) ?_
  obtain ⟨x1, hx1, h⟩ := bd_e h
  try dsimp only at h
  refine k_SiU (n := 3) (As := [.long p0.toInt64, .long (0 : Int64), .long (((1 : Int32) <<< (p1 &&& 31)) - (1 : Int32)).toInt64]) (rest := []) hx hb hml hown hts (c_X9_in l G cI cJ cD cH s.heap.size p0.toInt64 (0 : Int64) (((1 : Int32) <<< (p1 &&& 31)) - (1 : Int32)).toInt64 x1 hx1) gX9_isSplit_X9_in rfl rfl rfl (by decide +kernel) ⟨by first | exact Nat.le_of_ble_eq_true rfl | (simp only [headSpec]; omega), by first | exact Nat.le_of_ble_eq_true rfl | (simp only [headSpec]; omega)⟩ hK hP hD hS hA [] (by decide) rfl rfl rfl hl.1 (Nat.le_of_ble_eq_true rfl) dX9_isSplit_9 ⟨Nat.zero_le _, Nat.zero_le _⟩ (fun hp1 H locs hP hS => ?_)
  refine lv_if_eq (tgt := 43) hx hb dX9_isSplit_12 (by decide) (fun c2 => ?_) (fun c2 => ?_)
  · have h := it_p h c2
    refine lv_iconst (v := (0 : Int32)) hx hb dX9_isSplit_43 (by decide) ?_
    have h9 := Option.some.inj h
    have e9 : (0 : Int32) = r0 := congrArg (fun z9 => z9) h9
    rw [← e9]
    exact k_zret hx hb hr hlocks hP hS rfl rfl dX9_isSplit_44
  have h := it_n h c2
  refine lv_iload_n hx hb dX9_isSplit_15 rfl (lv_at hl 0 rfl) ?_
  refine lv_iconst (v := (1 : Int32)) hx hb dX9_isSplit_16 (by decide) ?_
  refine lv_iand hx hb dX9_isSplit_17 ?_
  refine lv_if_ne (tgt := 43) hx hb dX9_isSplit_18 (by decide) (fun c3 => ?_) (fun c3 => ?_)
  · have h := it_n h c3
    refine lv_iconst (v := (0 : Int32)) hx hb dX9_isSplit_43 (by decide) ?_
    have h9 := Option.some.inj h
    have e9 : (0 : Int32) = r0 := congrArg (fun z9 => z9) h9
    rw [← e9]
    exact k_zret hx hb hr hlocks hP hS rfl rfl dX9_isSplit_44
  have h := it_p h c3
  refine lv_iload_n hx hb dX9_isSplit_21 rfl (lv_at hl 0 rfl) ?_
  obtain ⟨x4, hx4, h⟩ := bd_e h
  try dsimp only at h
  refine k_SiU (n := 1) (As := [.int p0]) (rest := []) hx hb hml hown hts (c_X9_bits l G cI cJ cD cH H.size p0 x4 hx4) gX9_isSplit_X9_bits rfl rfl rfl (by decide +kernel) ⟨by first | exact Nat.le_of_ble_eq_true rfl | (simp only [headSpec]; omega), by first | exact Nat.le_of_ble_eq_true rfl | (simp only [headSpec]; omega)⟩ hK hP hD hS hA [] (by decide) rfl rfl rfl hl.1 (Nat.le_of_ble_eq_true rfl) dX9_isSplit_22 ⟨Nat.zero_le _, Nat.zero_le _⟩ (fun hp4 H locs hP hS => ?_)
  refine lv_i2l (v := x4.toInt64) hx hb dX9_isSplit_25 (by first | rfl | decide) ?_
  refine lv_ldc2 (v := (2 : Int64)) hx hb hown (hta _ mw_660) dX9_isSplit_26 ?_
  refine lv_iload_n hx hb dX9_isSplit_29 rfl (lv_at hl 1 rfl) ?_
  refine lv_iconst (v := (2 : Int32)) hx hb dX9_isSplit_30 (by decide) ?_
  refine lv_isub hx hb dX9_isSplit_31 ?_
  refine lv_i2l (v := (p1 - (2 : Int32)).toInt64) hx hb dX9_isSplit_32 (by first | rfl | decide) ?_
  obtain ⟨x5, hx5, h⟩ := bd_e h
  try dsimp only at h
  refine k_SiU (n := 3) (As := [.long x4.toInt64, .long (2 : Int64), .long (p1 - (2 : Int32)).toInt64]) (rest := []) hx hb hml hown hts (c_X9_in l G cI cJ cD cH H.size x4.toInt64 (2 : Int64) (p1 - (2 : Int32)).toInt64 x5 hx5) gX9_isSplit_X9_in rfl rfl rfl (by decide +kernel) ⟨by first | exact Nat.le_of_ble_eq_true rfl | (simp only [headSpec]; omega), by first | exact Nat.le_of_ble_eq_true rfl | (simp only [headSpec]; omega)⟩ hK hP hD hS hA [] (by decide) rfl rfl rfl hl.1 (Nat.le_of_ble_eq_true rfl) dX9_isSplit_33 ⟨Nat.zero_le _, Nat.zero_le _⟩ (fun hp5 H locs hP hS => ?_)
  refine lv_if_eq (tgt := 43) hx hb dX9_isSplit_36 (by decide) (fun c6 => ?_) (fun c6 => ?_)
  · have h := it_p h c6
    refine lv_iconst (v := (0 : Int32)) hx hb dX9_isSplit_43 (by decide) ?_
    have h9 := Option.some.inj h
    have e9 : (0 : Int32) = r0 := congrArg (fun z9 => z9) h9
    rw [← e9]
    exact k_zret hx hb hr hlocks hP hS rfl rfl dX9_isSplit_44
  have h := it_n h c6
  refine lv_iconst (v := (1 : Int32)) hx hb dX9_isSplit_39 (by decide) ?_
  refine lv_goto (tgt := 44) hx hb dX9_isSplit_40 (by decide) ?_
  have h9 := Option.some.inj h
  have e9 : (1 : Int32) = r0 := congrArg (fun z9 => z9) h9
  rw [← e9]
  exact k_zret hx hb hr hlocks hP hS rfl rfl dX9_isSplit_44

/-! X9_goTogether -/
set_option maxHeartbeats 4000000 in
set_option maxRecDepth 100000 in
theorem c_X9_goTogether (l : Launch) (G : va_G) (cI cJ cD cH : ClassId) (sz : Nat) (p0 : Int32) (p1 : Int32) (r0 : Int32) (hF : F_X9_goTogether p0 p1 = some r0) : Met l yX9_goTogether wsX9_goTogether ({ frames := 0, cells := 0, slots := 0, locals := 0 }) (k_pre G (k_T cI cJ cD cH) [] sz [.int p0, .int p1]) (va_Qi (fun r (_ : Unit) => r = r0 ∧ narrow .boolean (.int r0) = .int r0) (fun _ t => va_P G vwCl [] t.heap) (va_A [] sz)) 0 0 (va_A [] sz) := by
  refine Met.ofW (cc := cX9_goTogether) (maxL := 2) (ret := (some .boolean)) (by decide) rfl ?_
  intro p e s m args below meth c s₁ B hml hv
  obtain ⟨rfl, hsz, hP, hK, hD0⟩ := hv
  have hx := B.exec
  have hb := B.bytes
  have hr := B.returns
  have hts := atoms_spec (ws := wsX9_goTogether) B.pre
  have hta : ∀ w ∈ wA, w.before ([.int p0, .int p1] : List Value).toArray s = true := hta_of hts
  have hown : s.vm.findClass RX9 = some m.cls := findClass_of_methodNamed B.named
  have hlocks := B.notSynchronized
  subst hsz
  have hD := hD0.self (sz := s.heap.size)
  generalize hAe : va_A [] s.heap.size = A at hD ⊢
  have hA : ∀ q : Nat, s.heap.size ≤ q → A q := fun q h => by rw [← hAe]; exact Or.inr h
  have hS : va_S A s.heap s.heap [] := va_S.rf
  have hl := lv_entry ([.int p0, .int p1]) (n := 2) (Nat.le_of_ble_eq_true rfl)
  rw [lg_entry_eq]
  generalize (lg_sl ([.int p0, .int p1]) ++ List.replicate (2 - (lg_sl ([.int p0, .int p1])).length) Slot.unset).toArray = ls at hl ⊢
  have hl : lv_has ls 2 [(0, .int p0), (1, .int p1)] := hl
  have h := hF
  unfold F_X9_goTogether at h
  refine lv_iload_n hx hb dX9_goTogether_0 rfl (lv_at hl 0 rfl) ?_
  refine lv_iload_n hx hb dX9_goTogether_1 rfl (lv_at hl 1 rfl) ?_
  refine lv_iand hx hb dX9_goTogether_2 ?_
  refine lv_if_eq (tgt := 20) hx hb dX9_goTogether_3 (by decide) (fun c1 => ?_) (fun c1 => ?_)
  · have h := it_p h c1
    refine lv_iconst (v := (1 : Int32)) hx hb dX9_goTogether_20 (by decide) ?_
    refine lv_goto (tgt := 25) hx hb dX9_goTogether_21 (by decide) ?_
    have h9 := Option.some.inj h
    have e9 : (1 : Int32) = r0 := congrArg (fun z9 => z9) h9
    rw [← e9]
    exact k_zret hx hb hr hlocks hP hS rfl rfl dX9_goTogether_25
  have h := it_n h c1
  refine lv_iload_n hx hb dX9_goTogether_6 rfl (lv_at hl 0 rfl) ?_
  refine lv_iload_n hx hb dX9_goTogether_7 rfl (lv_at hl 1 rfl) ?_
  refine lv_iand hx hb dX9_goTogether_8 ?_
  refine lv_iload_n hx hb dX9_goTogether_9 rfl (lv_at hl 0 rfl) ?_
  refine lv_icmp_eq (tgt := 20) hx hb dX9_goTogether_10 (by decide) (fun c2 => ?_) (fun c2 => ?_)
  · have h := it_p h c2
    refine lv_iconst (v := (1 : Int32)) hx hb dX9_goTogether_20 (by decide) ?_
    refine lv_goto (tgt := 25) hx hb dX9_goTogether_21 (by decide) ?_
    have h9 := Option.some.inj h
    have e9 : (1 : Int32) = r0 := congrArg (fun z9 => z9) h9
    rw [← e9]
    exact k_zret hx hb hr hlocks hP hS rfl rfl dX9_goTogether_25
  have h := it_n h c2
  refine lv_iload_n hx hb dX9_goTogether_13 rfl (lv_at hl 0 rfl) ?_
  refine lv_iload_n hx hb dX9_goTogether_14 rfl (lv_at hl 1 rfl) ?_
  refine lv_iand hx hb dX9_goTogether_15 ?_
  refine lv_iload_n hx hb dX9_goTogether_16 rfl (lv_at hl 1 rfl) ?_
  refine lv_icmp_ne (tgt := 24) hx hb dX9_goTogether_17 (by decide) (fun c3 => ?_) (fun c3 => ?_)
  · have h := it_n h c3
    refine lv_iconst (v := (0 : Int32)) hx hb dX9_goTogether_24 (by decide) ?_
    have h9 := Option.some.inj h
    have e9 : (0 : Int32) = r0 := congrArg (fun z9 => z9) h9
    rw [← e9]
    exact k_zret hx hb hr hlocks hP hS rfl rfl dX9_goTogether_25
  have h := it_p h c3
  refine lv_iconst (v := (1 : Int32)) hx hb dX9_goTogether_20 (by decide) ?_
  refine lv_goto (tgt := 25) hx hb dX9_goTogether_21 (by decide) ?_
  have h9 := Option.some.inj h
  have e9 : (1 : Int32) = r0 := congrArg (fun z9 => z9) h9
  rw [← e9]
  exact k_zret hx hb hr hlocks hP hS rfl rfl dX9_goTogether_25

/-! X9_placeOf -/
set_option maxHeartbeats 4000000 in
set_option maxRecDepth 100000 in
theorem c_X9_placeOf (l : Launch) (G : va_G) (cI cJ cD cH : ClassId) (sz : Nat) (h_t : Nat) (h_t_tree : Nat) (h_t_powers : Nat) (h_t_ahead : Nat) (h_t_behind : Nat) (h_t_before : Nat) (h_t_rows : Nat) (h_t_met : Nat) (h_t_metSizes : Nat) (h_t_chosen : Nat) (h_t_tape : Nat) (h_t_toldPowers : Nat) (h_t_powerPlaces : Nat) (h_t_toldTree : Nat) (h_t_splitPlaces : Nat) (h_t_layers : Nat) (h_t_paper : Nat) (h_t_held : Nat) (h_t_numbers : Nat) (h_t_sizes : Nat) (h_t_heldLeaves : Nat) (h_t_items : Nat) (h_t_kept : Nat) (t_genus : Int32) (t_marks : Int32) (t_leaves : Int32) (t_splits : Int32) (t_done : Int32) (t_undone : Int32) (t_metMany : Int32) (t_treesSeen : Int32) (t_taped : Int32) (t_place : Int32) (t_isWrong : Int32) (t_toldGenus : Int32) (t_toldMarks : Int32) (t_isTree : Int32) (t_toldLeaves : Int32) (t_leavesPlace : Int32) (t_toldSplits : Int32) (t_isWhy : Int32) (t_papered : Int32) (t_isKept : Int32) (a_t_tree : Nat → Int32) (p0 : Int32) (r0 : Int32) (hF : F_X9_placeOf t_splits a_t_tree p0 = some r0) : Met l yX9_placeOf wsX9_placeOf ({ frames := 0, cells := 0, slots := 0, locals := 0 }) (k_pre G (k_T cI cJ cD cH) [(h_t, .inr (8, [.int t_genus, .int t_marks, .ref h_t_powers, .int t_leaves, .int t_splits, .ref h_t_tree, .ref h_t_ahead, .ref h_t_behind, .ref h_t_before, .int t_done, .int t_undone, .ref h_t_rows, .ref h_t_met, .ref h_t_metSizes, .int t_metMany, .int t_treesSeen, .ref h_t_chosen, .ref h_t_tape, .int t_taped, .int t_place, .int t_isWrong, .int t_toldGenus, .int t_toldMarks, .ref h_t_toldPowers, .ref h_t_powerPlaces, .int t_isTree, .int t_toldLeaves, .int t_leavesPlace, .int t_toldSplits, .ref h_t_toldTree, .ref h_t_splitPlaces, .ref h_t_layers, .int t_isWhy, .ref h_t_paper, .int t_papered, .ref h_t_held, .ref h_t_numbers, .ref h_t_sizes, .ref h_t_heldLeaves, .ref h_t_items, .ref h_t_kept, .int t_isKept])), (h_t_tree, .inl (cI, 3, .inl a_t_tree))] sz [.ref h_t, .int p0]) (va_Qi (fun r (_ : Unit) => r = r0 ∧ True) (fun _ t => va_P G vwCl [(h_t, .inr (8, [.int t_genus, .int t_marks, .ref h_t_powers, .int t_leaves, .int t_splits, .ref h_t_tree, .ref h_t_ahead, .ref h_t_behind, .ref h_t_before, .int t_done, .int t_undone, .ref h_t_rows, .ref h_t_met, .ref h_t_metSizes, .int t_metMany, .int t_treesSeen, .ref h_t_chosen, .ref h_t_tape, .int t_taped, .int t_place, .int t_isWrong, .int t_toldGenus, .int t_toldMarks, .ref h_t_toldPowers, .ref h_t_powerPlaces, .int t_isTree, .int t_toldLeaves, .int t_leavesPlace, .int t_toldSplits, .ref h_t_toldTree, .ref h_t_splitPlaces, .ref h_t_layers, .int t_isWhy, .ref h_t_paper, .int t_papered, .ref h_t_held, .ref h_t_numbers, .ref h_t_sizes, .ref h_t_heldLeaves, .ref h_t_items, .ref h_t_kept, .int t_isKept])), (h_t_tree, .inl (cI, 3, .inl a_t_tree))] t.heap) (va_A [(h_t, .inr (8, [.int t_genus, .int t_marks, .ref h_t_powers, .int t_leaves, .int t_splits, .ref h_t_tree, .ref h_t_ahead, .ref h_t_behind, .ref h_t_before, .int t_done, .int t_undone, .ref h_t_rows, .ref h_t_met, .ref h_t_metSizes, .int t_metMany, .int t_treesSeen, .ref h_t_chosen, .ref h_t_tape, .int t_taped, .int t_place, .int t_isWrong, .int t_toldGenus, .int t_toldMarks, .ref h_t_toldPowers, .ref h_t_powerPlaces, .int t_isTree, .int t_toldLeaves, .int t_leavesPlace, .int t_toldSplits, .ref h_t_toldTree, .ref h_t_splitPlaces, .ref h_t_layers, .int t_isWhy, .ref h_t_paper, .int t_papered, .ref h_t_held, .ref h_t_numbers, .ref h_t_sizes, .ref h_t_heldLeaves, .ref h_t_items, .ref h_t_kept, .int t_isKept])), (h_t_tree, .inl (cI, 3, .inl a_t_tree))] sz)) 0 0 (va_A [(h_t, .inr (8, [.int t_genus, .int t_marks, .ref h_t_powers, .int t_leaves, .int t_splits, .ref h_t_tree, .ref h_t_ahead, .ref h_t_behind, .ref h_t_before, .int t_done, .int t_undone, .ref h_t_rows, .ref h_t_met, .ref h_t_metSizes, .int t_metMany, .int t_treesSeen, .ref h_t_chosen, .ref h_t_tape, .int t_taped, .int t_place, .int t_isWrong, .int t_toldGenus, .int t_toldMarks, .ref h_t_toldPowers, .ref h_t_powerPlaces, .int t_isTree, .int t_toldLeaves, .int t_leavesPlace, .int t_toldSplits, .ref h_t_toldTree, .ref h_t_splitPlaces, .ref h_t_layers, .int t_isWhy, .ref h_t_paper, .int t_papered, .ref h_t_held, .ref h_t_numbers, .ref h_t_sizes, .ref h_t_heldLeaves, .ref h_t_items, .ref h_t_kept, .int t_isKept])), (h_t_tree, .inl (cI, 3, .inl a_t_tree))] sz) := by
  refine Met.ofW (cc := cX9_placeOf) (maxL := 3) (ret := (some .int)) (by decide) rfl ?_
  intro p e s m args below meth c s₁ B hml hv
  obtain ⟨rfl, hsz, hP, hK, hD0⟩ := hv
  have hx := B.exec
  have hb := B.bytes
  have hr := B.returns
  have hts := atoms_spec (ws := wsX9_placeOf) B.pre
  have hta : ∀ w ∈ wA, w.before ([.ref h_t, .int p0] : List Value).toArray s = true := hta_of hts
  have hown : s.vm.findClass RX9 = some m.cls := findClass_of_methodNamed B.named
  have hlocks := B.notSynchronized
  subst hsz
  have hD := hD0.self (sz := s.heap.size)
  generalize hAe : va_A [(h_t, .inr (8, [.int t_genus, .int t_marks, .ref h_t_powers, .int t_leaves, .int t_splits, .ref h_t_tree, .ref h_t_ahead, .ref h_t_behind, .ref h_t_before, .int t_done, .int t_undone, .ref h_t_rows, .ref h_t_met, .ref h_t_metSizes, .int t_metMany, .int t_treesSeen, .ref h_t_chosen, .ref h_t_tape, .int t_taped, .int t_place, .int t_isWrong, .int t_toldGenus, .int t_toldMarks, .ref h_t_toldPowers, .ref h_t_powerPlaces, .int t_isTree, .int t_toldLeaves, .int t_leavesPlace, .int t_toldSplits, .ref h_t_toldTree, .ref h_t_splitPlaces, .ref h_t_layers, .int t_isWhy, .ref h_t_paper, .int t_papered, .ref h_t_held, .ref h_t_numbers, .ref h_t_sizes, .ref h_t_heldLeaves, .ref h_t_items, .ref h_t_kept, .int t_isKept])), (h_t_tree, .inl (cI, 3, .inl a_t_tree))] s.heap.size = A at hD ⊢
  have hA : ∀ q : Nat, s.heap.size ≤ q → A q := fun q h => by rw [← hAe]; exact Or.inr h
  have hS : va_S A s.heap s.heap [] := va_S.rf
  have hl := lv_entry ([.ref h_t, .int p0]) (n := 3) (Nat.le_of_ble_eq_true rfl)
  rw [lg_entry_eq]
  generalize (lg_sl ([.ref h_t, .int p0]) ++ List.replicate (3 - (lg_sl ([.ref h_t, .int p0])).length) Slot.unset).toArray = ls at hl ⊢
  have hl : lv_has ls 3 [(0, .ref h_t), (1, .int p0)] := hl
  have hinX9 : ∀ w ∈ wsX90, w ∈ wsX9_placeOf := hin_of in_X9
  have h := hF
  unfold F_X9_placeOf at h
  refine lv_iconst (v := (0 : Int32)) hx hb dX9_placeOf_0 (by decide) ?_
  refine lv_istore_n (lv' := [(2, .int (0 : Int32)), (0, .ref h_t), (1, .int p0)]) hx hb dX9_placeOf_1 rfl hl (by decide) rfl (fun ls hl => ?_)
  have hK_X9_placeOf_2_28 : ∀ (H : Heap) (locs : List Loc) (ls : Array Slot), va_P G vwCl [(h_t, .inr (8, [.int t_genus, .int t_marks, .ref h_t_powers, .int t_leaves, .int t_splits, .ref h_t_tree, .ref h_t_ahead, .ref h_t_behind, .ref h_t_before, .int t_done, .int t_undone, .ref h_t_rows, .ref h_t_met, .ref h_t_metSizes, .int t_metMany, .int t_treesSeen, .ref h_t_chosen, .ref h_t_tape, .int t_taped, .int t_place, .int t_isWrong, .int t_toldGenus, .int t_toldMarks, .ref h_t_toldPowers, .ref h_t_powerPlaces, .int t_isTree, .int t_toldLeaves, .int t_leavesPlace, .int t_toldSplits, .ref h_t_toldTree, .ref h_t_splitPlaces, .ref h_t_layers, .int t_isWhy, .ref h_t_paper, .int t_papered, .ref h_t_held, .ref h_t_numbers, .ref h_t_sizes, .ref h_t_heldLeaves, .ref h_t_items, .ref h_t_kept, .int t_isKept])), (h_t_tree, .inl (cI, 3, .inl a_t_tree))] H → va_D A [(h_t, .inr (8, [.int t_genus, .int t_marks, .ref h_t_powers, .int t_leaves, .int t_splits, .ref h_t_tree, .ref h_t_ahead, .ref h_t_behind, .ref h_t_before, .int t_done, .int t_undone, .ref h_t_rows, .ref h_t_met, .ref h_t_metSizes, .int t_metMany, .int t_treesSeen, .ref h_t_chosen, .ref h_t_tape, .int t_taped, .int t_place, .int t_isWrong, .int t_toldGenus, .int t_toldMarks, .ref h_t_toldPowers, .ref h_t_powerPlaces, .int t_isTree, .int t_toldLeaves, .int t_leavesPlace, .int t_toldSplits, .ref h_t_toldTree, .ref h_t_splitPlaces, .ref h_t_layers, .int t_isWhy, .ref h_t_paper, .int t_papered, .ref h_t_held, .ref h_t_numbers, .ref h_t_sizes, .ref h_t_heldLeaves, .ref h_t_items, .ref h_t_kept, .int t_isKept])), (h_t_tree, .inl (cI, 3, .inl a_t_tree))] → va_S A s.heap H locs → lv_has ls 3 [] → K_X9_placeOf_2_28 = some r0 → W p l e (headSpec wsX9_placeOf ({ frames := 0, cells := 0, slots := 0, locals := 0 })).room s m ([.ref h_t, .int p0] : List Value).toArray below meth c H locs 0 0 (MQ below (va_Qi (fun r (_ : Unit) => r = r0 ∧ True) (fun _ t => va_P G vwCl [(h_t, .inr (8, [.int t_genus, .int t_marks, .ref h_t_powers, .int t_leaves, .int t_splits, .ref h_t_tree, .ref h_t_ahead, .ref h_t_behind, .ref h_t_before, .int t_done, .int t_undone, .ref h_t_rows, .ref h_t_met, .ref h_t_metSizes, .int t_metMany, .int t_treesSeen, .ref h_t_chosen, .ref h_t_tape, .int t_taped, .int t_place, .int t_isWrong, .int t_toldGenus, .int t_toldMarks, .ref h_t_toldPowers, .ref h_t_powerPlaces, .int t_isTree, .int t_toldLeaves, .int t_leavesPlace, .int t_toldSplits, .ref h_t_toldTree, .ref h_t_splitPlaces, .ref h_t_layers, .int t_isWhy, .ref h_t_paper, .int t_papered, .ref h_t_held, .ref h_t_numbers, .ref h_t_sizes, .ref h_t_heldLeaves, .ref h_t_items, .ref h_t_kept, .int t_isKept])), (h_t_tree, .inl (cI, 3, .inl a_t_tree))] t.heap) A) ([.ref h_t, .int p0] : List Value).toArray s 0 0 A) (F0 m 28 ls []) := by
    intro  H locs ls hP hD hS hl h
    unfold K_X9_placeOf_2_28 at h
    refine lv_bipush (v := (-2 : Int32)) hx hb dX9_placeOf_28 (by decide) ?_
    have h9 := Option.some.inj h
    have e9 : (-2 : Int32) = r0 := congrArg (fun z9 => z9) h9
    rw [← e9]
    exact k_iret hx hb hr hlocks hP hS rfl dX9_placeOf_30
  have hL2 : ∀ (n2 : Nat) (vL2_0 : Int32) (H : Heap) (locs : List Loc) (ls : Array Slot), va_P G vwCl [(h_t, .inr (8, [.int t_genus, .int t_marks, .ref h_t_powers, .int t_leaves, .int t_splits, .ref h_t_tree, .ref h_t_ahead, .ref h_t_behind, .ref h_t_before, .int t_done, .int t_undone, .ref h_t_rows, .ref h_t_met, .ref h_t_metSizes, .int t_metMany, .int t_treesSeen, .ref h_t_chosen, .ref h_t_tape, .int t_taped, .int t_place, .int t_isWrong, .int t_toldGenus, .int t_toldMarks, .ref h_t_toldPowers, .ref h_t_powerPlaces, .int t_isTree, .int t_toldLeaves, .int t_leavesPlace, .int t_toldSplits, .ref h_t_toldTree, .ref h_t_splitPlaces, .ref h_t_layers, .int t_isWhy, .ref h_t_paper, .int t_papered, .ref h_t_held, .ref h_t_numbers, .ref h_t_sizes, .ref h_t_heldLeaves, .ref h_t_items, .ref h_t_kept, .int t_isKept])), (h_t_tree, .inl (cI, 3, .inl a_t_tree))] H → va_D A [(h_t, .inr (8, [.int t_genus, .int t_marks, .ref h_t_powers, .int t_leaves, .int t_splits, .ref h_t_tree, .ref h_t_ahead, .ref h_t_behind, .ref h_t_before, .int t_done, .int t_undone, .ref h_t_rows, .ref h_t_met, .ref h_t_metSizes, .int t_metMany, .int t_treesSeen, .ref h_t_chosen, .ref h_t_tape, .int t_taped, .int t_place, .int t_isWrong, .int t_toldGenus, .int t_toldMarks, .ref h_t_toldPowers, .ref h_t_powerPlaces, .int t_isTree, .int t_toldLeaves, .int t_leavesPlace, .int t_toldSplits, .ref h_t_toldTree, .ref h_t_splitPlaces, .ref h_t_layers, .int t_isWhy, .ref h_t_paper, .int t_papered, .ref h_t_held, .ref h_t_numbers, .ref h_t_sizes, .ref h_t_heldLeaves, .ref h_t_items, .ref h_t_kept, .int t_isKept])), (h_t_tree, .inl (cI, 3, .inl a_t_tree))] → va_S A s.heap H locs → lv_has ls 3 [(0, .ref h_t), (1, .int p0), (2, .int vL2_0)] → wq1 (B_X9_placeOf_2 t_splits a_t_tree p0 K_X9_placeOf_2_28) n2 vL2_0 = some r0 → W p l e (headSpec wsX9_placeOf ({ frames := 0, cells := 0, slots := 0, locals := 0 })).room s m ([.ref h_t, .int p0] : List Value).toArray below meth c H locs 0 0 (MQ below (va_Qi (fun r (_ : Unit) => r = r0 ∧ True) (fun _ t => va_P G vwCl [(h_t, .inr (8, [.int t_genus, .int t_marks, .ref h_t_powers, .int t_leaves, .int t_splits, .ref h_t_tree, .ref h_t_ahead, .ref h_t_behind, .ref h_t_before, .int t_done, .int t_undone, .ref h_t_rows, .ref h_t_met, .ref h_t_metSizes, .int t_metMany, .int t_treesSeen, .ref h_t_chosen, .ref h_t_tape, .int t_taped, .int t_place, .int t_isWrong, .int t_toldGenus, .int t_toldMarks, .ref h_t_toldPowers, .ref h_t_powerPlaces, .int t_isTree, .int t_toldLeaves, .int t_leavesPlace, .int t_toldSplits, .ref h_t_toldTree, .ref h_t_splitPlaces, .ref h_t_layers, .int t_isWhy, .ref h_t_paper, .int t_papered, .ref h_t_held, .ref h_t_numbers, .ref h_t_sizes, .ref h_t_heldLeaves, .ref h_t_items, .ref h_t_kept, .int t_isKept])), (h_t_tree, .inl (cI, 3, .inl a_t_tree))] t.heap) A) ([.ref h_t, .int p0] : List Value).toArray s 0 0 A) (F0 m 2 ls []) := by
    intro n2
    induction n2 with
    | zero => intro vL2_0 H locs ls hP hD hS hl h; exact wq1_0 h
    | succ n2 ih2 =>
      intro vL2_0 H locs ls hP hD hS hl h
      have h := wq1_s h
      unfold B_X9_placeOf_2 at h
      refine lv_iload_n hx hb dX9_placeOf_2 rfl (lv_at hl 2 rfl) ?_
      refine lv_aload_n hx hb dX9_placeOf_3 rfl (lv_at hl 0 rfl) ?_
      refine va_get (D := G) (ci := 8) (v := .int t_splits) (C := RX9) (T := TX9) (N := 42) hx hb hts hinX9 hown hK hP 0 rfl rfl 4 (by decide) (hta _ mw_642) (fun _ h9 => h9) rfl dX9_placeOf_4 ?_
      refine lv_icmp_ge (tgt := 28) hx hb dX9_placeOf_7 (by decide) (fun c1 => ?_) (fun c1 => ?_)
      · have h := it_p h c1
        exact hK_X9_placeOf_2_28  _ _ _ hP hD hS (lv_sub hl [] rfl) h
      have h := it_n h c1
      refine lv_aload_n hx hb dX9_placeOf_10 rfl (lv_at hl 0 rfl) ?_
      refine va_get (D := G) (ci := 8) (v := .ref h_t_tree) (C := RX9) (T := TX9) (N := 42) hx hb hts hinX9 hown hK hP 0 rfl rfl 5 (by decide) (hta _ mw_610) (fun _ h9 => h9) rfl dX9_placeOf_11 ?_
      refine lv_iload_n hx hb dX9_placeOf_14 rfl (lv_at hl 2 rfl) ?_
      obtain ⟨hn2, h⟩ := ck_e h
      refine va_iald hx hb hK hP 1 0 rfl rfl hn2 dX9_placeOf_15 ?_
      refine lv_iload_n hx hb dX9_placeOf_16 rfl (lv_at hl 1 rfl) ?_
      refine lv_icmp_ne (tgt := 22) hx hb dX9_placeOf_17 (by decide) (fun c3 => ?_) (fun c3 => ?_)
      · have h := it_n h c3
        refine lv_iinc (v := (vL2_0 + (1 : Int32))) (lv' := [(2, .int (vL2_0 + (1 : Int32))), (0, .ref h_t), (1, .int p0)]) hx hb dX9_placeOf_22 hl (k := 2) rfl (by first | rfl | decide) (by decide) rfl (fun ls hl => ?_)
        refine lv_goto (tgt := 2) hx hb dX9_placeOf_25 (by decide) ?_
        exact ih2 (vL2_0 + (1 : Int32)) _ _ _ hP hD hS (lv_sub hl [1, 2, 0] rfl) h
      have h := it_p h c3
      refine lv_iload_n hx hb dX9_placeOf_20 rfl (lv_at hl 2 rfl) ?_
      have h9 := Option.some.inj h
      have e9 : vL2_0 = r0 := congrArg (fun z9 => z9) h9
      rw [← e9]
      exact k_iret hx hb hr hlocks hP hS rfl dX9_placeOf_21
  exact hL2 FU (0 : Int32) _ _ _ hP hD hS (lv_sub hl [1, 2, 0] rfl) h

/-! X9_mayCome -/
set_option maxHeartbeats 4000000 in
set_option maxRecDepth 100000 in
theorem c_X9_mayCome (l : Launch) (G : va_G) (cI cJ cD cH : ClassId) (sz : Nat) (h_t : Nat) (h_t_tree : Nat) (h_t_powers : Nat) (h_t_ahead : Nat) (h_t_behind : Nat) (h_t_before : Nat) (h_t_rows : Nat) (h_t_met : Nat) (h_t_metSizes : Nat) (h_t_chosen : Nat) (h_t_tape : Nat) (h_t_toldPowers : Nat) (h_t_powerPlaces : Nat) (h_t_toldTree : Nat) (h_t_splitPlaces : Nat) (h_t_layers : Nat) (h_t_paper : Nat) (h_t_held : Nat) (h_t_numbers : Nat) (h_t_sizes : Nat) (h_t_heldLeaves : Nat) (h_t_items : Nat) (h_t_kept : Nat) (t_genus : Int32) (t_marks : Int32) (t_leaves : Int32) (t_splits : Int32) (t_done : Int32) (t_undone : Int32) (t_metMany : Int32) (t_treesSeen : Int32) (t_taped : Int32) (t_place : Int32) (t_isWrong : Int32) (t_toldGenus : Int32) (t_toldMarks : Int32) (t_isTree : Int32) (t_toldLeaves : Int32) (t_leavesPlace : Int32) (t_toldSplits : Int32) (t_isWhy : Int32) (t_papered : Int32) (t_isKept : Int32) (a_t_tree : Nat → Int32) (p0 : Int32) (r0 : Int32) (hF : F_X9_mayCome t_splits a_t_tree p0 = some r0) : Met l yX9_mayCome wsX9_mayCome ({ frames := 1, cells := 0, slots := 0, locals := 21 }) (k_pre G (k_T cI cJ cD cH) [(h_t, .inr (8, [.int t_genus, .int t_marks, .ref h_t_powers, .int t_leaves, .int t_splits, .ref h_t_tree, .ref h_t_ahead, .ref h_t_behind, .ref h_t_before, .int t_done, .int t_undone, .ref h_t_rows, .ref h_t_met, .ref h_t_metSizes, .int t_metMany, .int t_treesSeen, .ref h_t_chosen, .ref h_t_tape, .int t_taped, .int t_place, .int t_isWrong, .int t_toldGenus, .int t_toldMarks, .ref h_t_toldPowers, .ref h_t_powerPlaces, .int t_isTree, .int t_toldLeaves, .int t_leavesPlace, .int t_toldSplits, .ref h_t_toldTree, .ref h_t_splitPlaces, .ref h_t_layers, .int t_isWhy, .ref h_t_paper, .int t_papered, .ref h_t_held, .ref h_t_numbers, .ref h_t_sizes, .ref h_t_heldLeaves, .ref h_t_items, .ref h_t_kept, .int t_isKept])), (h_t_tree, .inl (cI, 3, .inl a_t_tree))] sz [.ref h_t, .int p0]) (va_Qi (fun r (_ : Unit) => r = r0 ∧ narrow .boolean (.int r0) = .int r0) (fun _ t => va_P G vwCl [(h_t, .inr (8, [.int t_genus, .int t_marks, .ref h_t_powers, .int t_leaves, .int t_splits, .ref h_t_tree, .ref h_t_ahead, .ref h_t_behind, .ref h_t_before, .int t_done, .int t_undone, .ref h_t_rows, .ref h_t_met, .ref h_t_metSizes, .int t_metMany, .int t_treesSeen, .ref h_t_chosen, .ref h_t_tape, .int t_taped, .int t_place, .int t_isWrong, .int t_toldGenus, .int t_toldMarks, .ref h_t_toldPowers, .ref h_t_powerPlaces, .int t_isTree, .int t_toldLeaves, .int t_leavesPlace, .int t_toldSplits, .ref h_t_toldTree, .ref h_t_splitPlaces, .ref h_t_layers, .int t_isWhy, .ref h_t_paper, .int t_papered, .ref h_t_held, .ref h_t_numbers, .ref h_t_sizes, .ref h_t_heldLeaves, .ref h_t_items, .ref h_t_kept, .int t_isKept])), (h_t_tree, .inl (cI, 3, .inl a_t_tree))] t.heap) (va_A [(h_t, .inr (8, [.int t_genus, .int t_marks, .ref h_t_powers, .int t_leaves, .int t_splits, .ref h_t_tree, .ref h_t_ahead, .ref h_t_behind, .ref h_t_before, .int t_done, .int t_undone, .ref h_t_rows, .ref h_t_met, .ref h_t_metSizes, .int t_metMany, .int t_treesSeen, .ref h_t_chosen, .ref h_t_tape, .int t_taped, .int t_place, .int t_isWrong, .int t_toldGenus, .int t_toldMarks, .ref h_t_toldPowers, .ref h_t_powerPlaces, .int t_isTree, .int t_toldLeaves, .int t_leavesPlace, .int t_toldSplits, .ref h_t_toldTree, .ref h_t_splitPlaces, .ref h_t_layers, .int t_isWhy, .ref h_t_paper, .int t_papered, .ref h_t_held, .ref h_t_numbers, .ref h_t_sizes, .ref h_t_heldLeaves, .ref h_t_items, .ref h_t_kept, .int t_isKept])), (h_t_tree, .inl (cI, 3, .inl a_t_tree))] sz)) 0 0 (va_A [(h_t, .inr (8, [.int t_genus, .int t_marks, .ref h_t_powers, .int t_leaves, .int t_splits, .ref h_t_tree, .ref h_t_ahead, .ref h_t_behind, .ref h_t_before, .int t_done, .int t_undone, .ref h_t_rows, .ref h_t_met, .ref h_t_metSizes, .int t_metMany, .int t_treesSeen, .ref h_t_chosen, .ref h_t_tape, .int t_taped, .int t_place, .int t_isWrong, .int t_toldGenus, .int t_toldMarks, .ref h_t_toldPowers, .ref h_t_powerPlaces, .int t_isTree, .int t_toldLeaves, .int t_leavesPlace, .int t_toldSplits, .ref h_t_toldTree, .ref h_t_splitPlaces, .ref h_t_layers, .int t_isWhy, .ref h_t_paper, .int t_papered, .ref h_t_held, .ref h_t_numbers, .ref h_t_sizes, .ref h_t_heldLeaves, .ref h_t_items, .ref h_t_kept, .int t_isKept])), (h_t_tree, .inl (cI, 3, .inl a_t_tree))] sz) := by
  refine Met.ofW (cc := cX9_mayCome) (maxL := 3) (ret := (some .boolean)) (by decide) rfl ?_
  intro p e s m args below meth c s₁ B hml hv
  obtain ⟨rfl, hsz, hP, hK, hD0⟩ := hv
  have hx := B.exec
  have hb := B.bytes
  have hr := B.returns
  have hts := atoms_spec (ws := wsX9_mayCome) B.pre
  have hta : ∀ w ∈ wA, w.before ([.ref h_t, .int p0] : List Value).toArray s = true := hta_of hts
  have hown : s.vm.findClass RX9 = some m.cls := findClass_of_methodNamed B.named
  have hlocks := B.notSynchronized
  subst hsz
  have hD := hD0.self (sz := s.heap.size)
  generalize hAe : va_A [(h_t, .inr (8, [.int t_genus, .int t_marks, .ref h_t_powers, .int t_leaves, .int t_splits, .ref h_t_tree, .ref h_t_ahead, .ref h_t_behind, .ref h_t_before, .int t_done, .int t_undone, .ref h_t_rows, .ref h_t_met, .ref h_t_metSizes, .int t_metMany, .int t_treesSeen, .ref h_t_chosen, .ref h_t_tape, .int t_taped, .int t_place, .int t_isWrong, .int t_toldGenus, .int t_toldMarks, .ref h_t_toldPowers, .ref h_t_powerPlaces, .int t_isTree, .int t_toldLeaves, .int t_leavesPlace, .int t_toldSplits, .ref h_t_toldTree, .ref h_t_splitPlaces, .ref h_t_layers, .int t_isWhy, .ref h_t_paper, .int t_papered, .ref h_t_held, .ref h_t_numbers, .ref h_t_sizes, .ref h_t_heldLeaves, .ref h_t_items, .ref h_t_kept, .int t_isKept])), (h_t_tree, .inl (cI, 3, .inl a_t_tree))] s.heap.size = A at hD ⊢
  have hA : ∀ q : Nat, s.heap.size ≤ q → A q := fun q h => by rw [← hAe]; exact Or.inr h
  have hS : va_S A s.heap s.heap [] := va_S.rf
  have hl := lv_entry ([.ref h_t, .int p0]) (n := 3) (Nat.le_of_ble_eq_true rfl)
  rw [lg_entry_eq]
  generalize (lg_sl ([.ref h_t, .int p0]) ++ List.replicate (3 - (lg_sl ([.ref h_t, .int p0])).length) Slot.unset).toArray = ls at hl ⊢
  have hl : lv_has ls 3 [(0, .ref h_t), (1, .int p0)] := hl
  have hinX9 : ∀ w ∈ wsX90, w ∈ wsX9_mayCome := hin_of in_X9
  have h := hF
  unfold F_X9_mayCome at h
  refine lv_iconst (v := (0 : Int32)) hx hb dX9_mayCome_0 (by decide) ?_
  refine lv_istore_n (lv' := [(2, .int (0 : Int32)), (0, .ref h_t), (1, .int p0)]) hx hb dX9_mayCome_1 rfl hl (by decide) rfl (fun ls hl => ?_)
  have hK_X9_mayCome_2_41 : ∀ (H : Heap) (locs : List Loc) (ls : Array Slot), va_P G vwCl [(h_t, .inr (8, [.int t_genus, .int t_marks, .ref h_t_powers, .int t_leaves, .int t_splits, .ref h_t_tree, .ref h_t_ahead, .ref h_t_behind, .ref h_t_before, .int t_done, .int t_undone, .ref h_t_rows, .ref h_t_met, .ref h_t_metSizes, .int t_metMany, .int t_treesSeen, .ref h_t_chosen, .ref h_t_tape, .int t_taped, .int t_place, .int t_isWrong, .int t_toldGenus, .int t_toldMarks, .ref h_t_toldPowers, .ref h_t_powerPlaces, .int t_isTree, .int t_toldLeaves, .int t_leavesPlace, .int t_toldSplits, .ref h_t_toldTree, .ref h_t_splitPlaces, .ref h_t_layers, .int t_isWhy, .ref h_t_paper, .int t_papered, .ref h_t_held, .ref h_t_numbers, .ref h_t_sizes, .ref h_t_heldLeaves, .ref h_t_items, .ref h_t_kept, .int t_isKept])), (h_t_tree, .inl (cI, 3, .inl a_t_tree))] H → va_D A [(h_t, .inr (8, [.int t_genus, .int t_marks, .ref h_t_powers, .int t_leaves, .int t_splits, .ref h_t_tree, .ref h_t_ahead, .ref h_t_behind, .ref h_t_before, .int t_done, .int t_undone, .ref h_t_rows, .ref h_t_met, .ref h_t_metSizes, .int t_metMany, .int t_treesSeen, .ref h_t_chosen, .ref h_t_tape, .int t_taped, .int t_place, .int t_isWrong, .int t_toldGenus, .int t_toldMarks, .ref h_t_toldPowers, .ref h_t_powerPlaces, .int t_isTree, .int t_toldLeaves, .int t_leavesPlace, .int t_toldSplits, .ref h_t_toldTree, .ref h_t_splitPlaces, .ref h_t_layers, .int t_isWhy, .ref h_t_paper, .int t_papered, .ref h_t_held, .ref h_t_numbers, .ref h_t_sizes, .ref h_t_heldLeaves, .ref h_t_items, .ref h_t_kept, .int t_isKept])), (h_t_tree, .inl (cI, 3, .inl a_t_tree))] → va_S A s.heap H locs → lv_has ls 3 [] → K_X9_mayCome_2_41 = some r0 → W p l e (headSpec wsX9_mayCome ({ frames := 1, cells := 0, slots := 0, locals := 21 })).room s m ([.ref h_t, .int p0] : List Value).toArray below meth c H locs 0 0 (MQ below (va_Qi (fun r (_ : Unit) => r = r0 ∧ narrow .boolean (.int r0) = .int r0) (fun _ t => va_P G vwCl [(h_t, .inr (8, [.int t_genus, .int t_marks, .ref h_t_powers, .int t_leaves, .int t_splits, .ref h_t_tree, .ref h_t_ahead, .ref h_t_behind, .ref h_t_before, .int t_done, .int t_undone, .ref h_t_rows, .ref h_t_met, .ref h_t_metSizes, .int t_metMany, .int t_treesSeen, .ref h_t_chosen, .ref h_t_tape, .int t_taped, .int t_place, .int t_isWrong, .int t_toldGenus, .int t_toldMarks, .ref h_t_toldPowers, .ref h_t_powerPlaces, .int t_isTree, .int t_toldLeaves, .int t_leavesPlace, .int t_toldSplits, .ref h_t_toldTree, .ref h_t_splitPlaces, .ref h_t_layers, .int t_isWhy, .ref h_t_paper, .int t_papered, .ref h_t_held, .ref h_t_numbers, .ref h_t_sizes, .ref h_t_heldLeaves, .ref h_t_items, .ref h_t_kept, .int t_isKept])), (h_t_tree, .inl (cI, 3, .inl a_t_tree))] t.heap) A) ([.ref h_t, .int p0] : List Value).toArray s 0 0 A) (F0 m 41 ls []) := by
    intro  H locs ls hP hD hS hl h
    unfold K_X9_mayCome_2_41 at h
    refine lv_iconst (v := (1 : Int32)) hx hb dX9_mayCome_41 (by decide) ?_
    have h9 := Option.some.inj h
    have e9 : (1 : Int32) = r0 := congrArg (fun z9 => z9) h9
    rw [← e9]
    exact k_zret hx hb hr hlocks hP hS rfl rfl dX9_mayCome_42
  have hL2 : ∀ (n2 : Nat) (vL2_0 : Int32) (H : Heap) (locs : List Loc) (ls : Array Slot), va_P G vwCl [(h_t, .inr (8, [.int t_genus, .int t_marks, .ref h_t_powers, .int t_leaves, .int t_splits, .ref h_t_tree, .ref h_t_ahead, .ref h_t_behind, .ref h_t_before, .int t_done, .int t_undone, .ref h_t_rows, .ref h_t_met, .ref h_t_metSizes, .int t_metMany, .int t_treesSeen, .ref h_t_chosen, .ref h_t_tape, .int t_taped, .int t_place, .int t_isWrong, .int t_toldGenus, .int t_toldMarks, .ref h_t_toldPowers, .ref h_t_powerPlaces, .int t_isTree, .int t_toldLeaves, .int t_leavesPlace, .int t_toldSplits, .ref h_t_toldTree, .ref h_t_splitPlaces, .ref h_t_layers, .int t_isWhy, .ref h_t_paper, .int t_papered, .ref h_t_held, .ref h_t_numbers, .ref h_t_sizes, .ref h_t_heldLeaves, .ref h_t_items, .ref h_t_kept, .int t_isKept])), (h_t_tree, .inl (cI, 3, .inl a_t_tree))] H → va_D A [(h_t, .inr (8, [.int t_genus, .int t_marks, .ref h_t_powers, .int t_leaves, .int t_splits, .ref h_t_tree, .ref h_t_ahead, .ref h_t_behind, .ref h_t_before, .int t_done, .int t_undone, .ref h_t_rows, .ref h_t_met, .ref h_t_metSizes, .int t_metMany, .int t_treesSeen, .ref h_t_chosen, .ref h_t_tape, .int t_taped, .int t_place, .int t_isWrong, .int t_toldGenus, .int t_toldMarks, .ref h_t_toldPowers, .ref h_t_powerPlaces, .int t_isTree, .int t_toldLeaves, .int t_leavesPlace, .int t_toldSplits, .ref h_t_toldTree, .ref h_t_splitPlaces, .ref h_t_layers, .int t_isWhy, .ref h_t_paper, .int t_papered, .ref h_t_held, .ref h_t_numbers, .ref h_t_sizes, .ref h_t_heldLeaves, .ref h_t_items, .ref h_t_kept, .int t_isKept])), (h_t_tree, .inl (cI, 3, .inl a_t_tree))] → va_S A s.heap H locs → lv_has ls 3 [(0, .ref h_t), (1, .int p0), (2, .int vL2_0)] → wq1 (B_X9_mayCome_2 t_splits a_t_tree p0 K_X9_mayCome_2_41) n2 vL2_0 = some r0 → W p l e (headSpec wsX9_mayCome ({ frames := 1, cells := 0, slots := 0, locals := 21 })).room s m ([.ref h_t, .int p0] : List Value).toArray below meth c H locs 0 0 (MQ below (va_Qi (fun r (_ : Unit) => r = r0 ∧ narrow .boolean (.int r0) = .int r0) (fun _ t => va_P G vwCl [(h_t, .inr (8, [.int t_genus, .int t_marks, .ref h_t_powers, .int t_leaves, .int t_splits, .ref h_t_tree, .ref h_t_ahead, .ref h_t_behind, .ref h_t_before, .int t_done, .int t_undone, .ref h_t_rows, .ref h_t_met, .ref h_t_metSizes, .int t_metMany, .int t_treesSeen, .ref h_t_chosen, .ref h_t_tape, .int t_taped, .int t_place, .int t_isWrong, .int t_toldGenus, .int t_toldMarks, .ref h_t_toldPowers, .ref h_t_powerPlaces, .int t_isTree, .int t_toldLeaves, .int t_leavesPlace, .int t_toldSplits, .ref h_t_toldTree, .ref h_t_splitPlaces, .ref h_t_layers, .int t_isWhy, .ref h_t_paper, .int t_papered, .ref h_t_held, .ref h_t_numbers, .ref h_t_sizes, .ref h_t_heldLeaves, .ref h_t_items, .ref h_t_kept, .int t_isKept])), (h_t_tree, .inl (cI, 3, .inl a_t_tree))] t.heap) A) ([.ref h_t, .int p0] : List Value).toArray s 0 0 A) (F0 m 2 ls []) := by
    intro n2
    induction n2 with
    | zero => intro vL2_0 H locs ls hP hD hS hl h; exact wq1_0 h
    | succ n2 ih2 =>
      intro vL2_0 H locs ls hP hD hS hl h
      have h := wq1_s h
      unfold B_X9_mayCome_2 at h
      refine lv_iload_n hx hb dX9_mayCome_2 rfl (lv_at hl 2 rfl) ?_
      refine lv_aload_n hx hb dX9_mayCome_3 rfl (lv_at hl 0 rfl) ?_
      refine va_get (D := G) (ci := 8) (v := .int t_splits) (C := RX9) (T := TX9) (N := 42) hx hb hts hinX9 hown hK hP 0 rfl rfl 4 (by decide) (hta _ mw_642) (fun _ h9 => h9) rfl dX9_mayCome_4 ?_
      refine lv_icmp_ge (tgt := 41) hx hb dX9_mayCome_7 (by decide) (fun c1 => ?_) (fun c1 => ?_)
      · have h := it_p h c1
        exact hK_X9_mayCome_2_41  _ _ _ hP hD hS (lv_sub hl [] rfl) h
      have h := it_n h c1
      refine lv_aload_n hx hb dX9_mayCome_10 rfl (lv_at hl 0 rfl) ?_
      refine va_get (D := G) (ci := 8) (v := .ref h_t_tree) (C := RX9) (T := TX9) (N := 42) hx hb hts hinX9 hown hK hP 0 rfl rfl 5 (by decide) (hta _ mw_610) (fun _ h9 => h9) rfl dX9_mayCome_11 ?_
      refine lv_iload_n hx hb dX9_mayCome_14 rfl (lv_at hl 2 rfl) ?_
      obtain ⟨hn2, h⟩ := ck_e h
      refine va_iald hx hb hK hP 1 0 rfl rfl hn2 dX9_mayCome_15 ?_
      refine lv_iload_n hx hb dX9_mayCome_16 rfl (lv_at hl 1 rfl) ?_
      refine lv_icmp_eq (tgt := 33) hx hb dX9_mayCome_17 (by decide) (fun c3 => ?_) (fun c3 => ?_)
      · have h := it_p h c3
        refine lv_iconst (v := (0 : Int32)) hx hb dX9_mayCome_33 (by decide) ?_
        have h9 := Option.some.inj h
        have e9 : (0 : Int32) = r0 := congrArg (fun z9 => z9) h9
        rw [← e9]
        exact k_zret hx hb hr hlocks hP hS rfl rfl dX9_mayCome_34
      have h := it_n h c3
      refine lv_aload_n hx hb dX9_mayCome_20 rfl (lv_at hl 0 rfl) ?_
      refine va_get (D := G) (ci := 8) (v := .ref h_t_tree) (C := RX9) (T := TX9) (N := 42) hx hb hts hinX9 hown hK hP 0 rfl rfl 5 (by decide) (hta _ mw_610) (fun _ h9 => h9) rfl dX9_mayCome_21 ?_
      refine lv_iload_n hx hb dX9_mayCome_24 rfl (lv_at hl 2 rfl) ?_
      obtain ⟨hn4, h⟩ := ck_e h
      refine va_iald hx hb hK hP 1 0 rfl rfl hn4 dX9_mayCome_25 ?_
      refine lv_iload_n hx hb dX9_mayCome_26 rfl (lv_at hl 1 rfl) ?_
      obtain ⟨x5, hx5, h⟩ := bd_e h
      try dsimp only at h
      refine k_SiU (n := 2) (As := [.int (a_t_tree vL2_0.toNatClampNeg), .int p0]) (rest := []) hx hb hml hown hts (c_X9_goTogether l G cI cJ cD cH H.size (a_t_tree vL2_0.toNatClampNeg) p0 x5 hx5) gX9_mayCome_X9_goTogether rfl rfl rfl (by decide +kernel) ⟨by first | exact Nat.le_of_ble_eq_true rfl | (simp only [headSpec]; omega), by first | exact Nat.le_of_ble_eq_true rfl | (simp only [headSpec]; omega)⟩ hK hP hD hS hA [] (by decide) rfl rfl rfl hl.1 (Nat.le_of_ble_eq_true rfl) dX9_mayCome_27 ⟨Nat.zero_le _, Nat.zero_le _⟩ (fun hp5 H locs hP hS => ?_)
      refine lv_if_ne (tgt := 35) hx hb dX9_mayCome_30 (by decide) (fun c6 => ?_) (fun c6 => ?_)
      · have h := it_n h c6
        refine lv_iinc (v := (vL2_0 + (1 : Int32))) (lv' := [(2, .int (vL2_0 + (1 : Int32))), (0, .ref h_t), (1, .int p0)]) hx hb dX9_mayCome_35 hl (k := 2) rfl (by first | rfl | decide) (by decide) rfl (fun ls hl => ?_)
        refine lv_goto (tgt := 2) hx hb dX9_mayCome_38 (by decide) ?_
        exact ih2 (vL2_0 + (1 : Int32)) _ _ _ hP hD hS (lv_sub hl [1, 2, 0] rfl) h
      have h := it_p h c6
      refine lv_iconst (v := (0 : Int32)) hx hb dX9_mayCome_33 (by decide) ?_
      have h9 := Option.some.inj h
      have e9 : (0 : Int32) = r0 := congrArg (fun z9 => z9) h9
      rw [← e9]
      exact k_zret hx hb hr hlocks hP hS rfl rfl dX9_mayCome_34
  exact hL2 FU (0 : Int32) _ _ _ hP hD hS (lv_sub hl [1, 2, 0] rfl) h

/-! X9_leaves_ -/
set_option maxHeartbeats 4000000 in
set_option maxRecDepth 100000 in
theorem c_X9_leaves_ (l : Launch) (G : va_G) (cI cJ cD cH : ClassId) (sz : Nat) (h_t : Nat) (h_t_before : Nat) (h_t_powers : Nat) (h_t_tree : Nat) (h_t_behind : Nat) (h_t_ahead : Nat) (h_t_rows : Nat) (h_t_met : Nat) (h_t_metSizes : Nat) (h_t_chosen : Nat) (h_t_tape : Nat) (h_t_toldPowers : Nat) (h_t_powerPlaces : Nat) (h_t_toldTree : Nat) (h_t_splitPlaces : Nat) (h_t_layers : Nat) (h_t_paper : Nat) (h_t_held : Nat) (h_t_numbers : Nat) (h_t_sizes : Nat) (h_t_heldLeaves : Nat) (h_t_items : Nat) (h_t_kept : Nat) (t_genus : Int32) (t_marks : Int32) (t_leaves : Int32) (t_splits : Int32) (t_done : Int32) (t_undone : Int32) (t_metMany : Int32) (t_treesSeen : Int32) (t_taped : Int32) (t_place : Int32) (t_isWrong : Int32) (t_toldGenus : Int32) (t_toldMarks : Int32) (t_isTree : Int32) (t_toldLeaves : Int32) (t_leavesPlace : Int32) (t_toldSplits : Int32) (t_isWhy : Int32) (t_papered : Int32) (t_isKept : Int32) (a_t_before : Nat → Int32) (a_t_powers : Nat → Int32) (a_t_tree : Nat → Int32) (a_t_behind : Nat → Int32) (a_t_ahead : Nat → Int32) (p0 : Int32) (r0 : Int32) (w0 : Nat → Int32) (w1 : Nat → Int32) (w2 : Nat → Int32) (w3 : Int32) (w4 : Int32) (w5 : Int32) (w6 : Int32) (hF : F_X9_leaves_ t_genus t_marks t_leaves t_splits t_done t_undone a_t_before a_t_powers a_t_tree a_t_behind a_t_ahead p0 = some (r0, w0, w1, w2, w3, w4, w5, w6)) : Met l yX9_leaves_ wsX9_leaves_ ({ frames := 2, cells := 0, slots := 0, locals := 45 }) (k_pre G (k_T cI cJ cD cH) [(h_t, .inr (8, [.int t_genus, .int t_marks, .ref h_t_powers, .int t_leaves, .int t_splits, .ref h_t_tree, .ref h_t_ahead, .ref h_t_behind, .ref h_t_before, .int t_done, .int t_undone, .ref h_t_rows, .ref h_t_met, .ref h_t_metSizes, .int t_metMany, .int t_treesSeen, .ref h_t_chosen, .ref h_t_tape, .int t_taped, .int t_place, .int t_isWrong, .int t_toldGenus, .int t_toldMarks, .ref h_t_toldPowers, .ref h_t_powerPlaces, .int t_isTree, .int t_toldLeaves, .int t_leavesPlace, .int t_toldSplits, .ref h_t_toldTree, .ref h_t_splitPlaces, .ref h_t_layers, .int t_isWhy, .ref h_t_paper, .int t_papered, .ref h_t_held, .ref h_t_numbers, .ref h_t_sizes, .ref h_t_heldLeaves, .ref h_t_items, .ref h_t_kept, .int t_isKept])), (h_t_before, .inl (cI, 16, .inl a_t_before)), (h_t_powers, .inl (cI, 8, .inl a_t_powers)), (h_t_tree, .inl (cI, 3, .inl a_t_tree)), (h_t_behind, .inl (cI, 144, .inl a_t_behind)), (h_t_ahead, .inl (cI, 144, .inl a_t_ahead))] sz [.ref h_t, .int p0]) (va_Qi (fun r (_ : Unit) => r = r0 ∧ True) (fun _ t => va_P G vwCl [(h_t, .inr (8, [.int t_genus, .int t_marks, .ref h_t_powers, .int w4, .int w5, .ref h_t_tree, .ref h_t_ahead, .ref h_t_behind, .ref h_t_before, .int w6, .int w3, .ref h_t_rows, .ref h_t_met, .ref h_t_metSizes, .int t_metMany, .int t_treesSeen, .ref h_t_chosen, .ref h_t_tape, .int t_taped, .int t_place, .int t_isWrong, .int t_toldGenus, .int t_toldMarks, .ref h_t_toldPowers, .ref h_t_powerPlaces, .int t_isTree, .int t_toldLeaves, .int t_leavesPlace, .int t_toldSplits, .ref h_t_toldTree, .ref h_t_splitPlaces, .ref h_t_layers, .int t_isWhy, .ref h_t_paper, .int t_papered, .ref h_t_held, .ref h_t_numbers, .ref h_t_sizes, .ref h_t_heldLeaves, .ref h_t_items, .ref h_t_kept, .int t_isKept])), (h_t_before, .inl (cI, 16, .inl w0)), (h_t_powers, .inl (cI, 8, .inl a_t_powers)), (h_t_tree, .inl (cI, 3, .inl a_t_tree)), (h_t_behind, .inl (cI, 144, .inl w1)), (h_t_ahead, .inl (cI, 144, .inl w2))] t.heap) (va_A [(h_t, .inr (8, [.int t_genus, .int t_marks, .ref h_t_powers, .int t_leaves, .int t_splits, .ref h_t_tree, .ref h_t_ahead, .ref h_t_behind, .ref h_t_before, .int t_done, .int t_undone, .ref h_t_rows, .ref h_t_met, .ref h_t_metSizes, .int t_metMany, .int t_treesSeen, .ref h_t_chosen, .ref h_t_tape, .int t_taped, .int t_place, .int t_isWrong, .int t_toldGenus, .int t_toldMarks, .ref h_t_toldPowers, .ref h_t_powerPlaces, .int t_isTree, .int t_toldLeaves, .int t_leavesPlace, .int t_toldSplits, .ref h_t_toldTree, .ref h_t_splitPlaces, .ref h_t_layers, .int t_isWhy, .ref h_t_paper, .int t_papered, .ref h_t_held, .ref h_t_numbers, .ref h_t_sizes, .ref h_t_heldLeaves, .ref h_t_items, .ref h_t_kept, .int t_isKept])), (h_t_before, .inl (cI, 16, .inl a_t_before)), (h_t_powers, .inl (cI, 8, .inl a_t_powers)), (h_t_tree, .inl (cI, 3, .inl a_t_tree)), (h_t_behind, .inl (cI, 144, .inl a_t_behind)), (h_t_ahead, .inl (cI, 144, .inl a_t_ahead))] sz)) 0 0 (va_A [(h_t, .inr (8, [.int t_genus, .int t_marks, .ref h_t_powers, .int t_leaves, .int t_splits, .ref h_t_tree, .ref h_t_ahead, .ref h_t_behind, .ref h_t_before, .int t_done, .int t_undone, .ref h_t_rows, .ref h_t_met, .ref h_t_metSizes, .int t_metMany, .int t_treesSeen, .ref h_t_chosen, .ref h_t_tape, .int t_taped, .int t_place, .int t_isWrong, .int t_toldGenus, .int t_toldMarks, .ref h_t_toldPowers, .ref h_t_powerPlaces, .int t_isTree, .int t_toldLeaves, .int t_leavesPlace, .int t_toldSplits, .ref h_t_toldTree, .ref h_t_splitPlaces, .ref h_t_layers, .int t_isWhy, .ref h_t_paper, .int t_papered, .ref h_t_held, .ref h_t_numbers, .ref h_t_sizes, .ref h_t_heldLeaves, .ref h_t_items, .ref h_t_kept, .int t_isKept])), (h_t_before, .inl (cI, 16, .inl a_t_before)), (h_t_powers, .inl (cI, 8, .inl a_t_powers)), (h_t_tree, .inl (cI, 3, .inl a_t_tree)), (h_t_behind, .inl (cI, 144, .inl a_t_behind)), (h_t_ahead, .inl (cI, 144, .inl a_t_ahead))] sz) := by
  refine Met.ofW (cc := cX9_leaves_) (maxL := 3) (ret := (some .int)) (by decide) rfl ?_
  intro p e s m args below meth c s₁ B hml hv
  obtain ⟨rfl, hsz, hP, hK, hD0⟩ := hv
  have hx := B.exec
  have hb := B.bytes
  have hr := B.returns
  have hts := atoms_spec (ws := wsX9_leaves_) B.pre
  have hta : ∀ w ∈ wA, w.before ([.ref h_t, .int p0] : List Value).toArray s = true := hta_of hts
  have hown : s.vm.findClass RX9 = some m.cls := findClass_of_methodNamed B.named
  have hlocks := B.notSynchronized
  subst hsz
  have hD := hD0.self (sz := s.heap.size)
  generalize hAe : va_A [(h_t, .inr (8, [.int t_genus, .int t_marks, .ref h_t_powers, .int t_leaves, .int t_splits, .ref h_t_tree, .ref h_t_ahead, .ref h_t_behind, .ref h_t_before, .int t_done, .int t_undone, .ref h_t_rows, .ref h_t_met, .ref h_t_metSizes, .int t_metMany, .int t_treesSeen, .ref h_t_chosen, .ref h_t_tape, .int t_taped, .int t_place, .int t_isWrong, .int t_toldGenus, .int t_toldMarks, .ref h_t_toldPowers, .ref h_t_powerPlaces, .int t_isTree, .int t_toldLeaves, .int t_leavesPlace, .int t_toldSplits, .ref h_t_toldTree, .ref h_t_splitPlaces, .ref h_t_layers, .int t_isWhy, .ref h_t_paper, .int t_papered, .ref h_t_held, .ref h_t_numbers, .ref h_t_sizes, .ref h_t_heldLeaves, .ref h_t_items, .ref h_t_kept, .int t_isKept])), (h_t_before, .inl (cI, 16, .inl a_t_before)), (h_t_powers, .inl (cI, 8, .inl a_t_powers)), (h_t_tree, .inl (cI, 3, .inl a_t_tree)), (h_t_behind, .inl (cI, 144, .inl a_t_behind)), (h_t_ahead, .inl (cI, 144, .inl a_t_ahead))] s.heap.size = A at hD ⊢
  have hA : ∀ q : Nat, s.heap.size ≤ q → A q := fun q h => by rw [← hAe]; exact Or.inr h
  have hS : va_S A s.heap s.heap [] := va_S.rf
  have hl := lv_entry ([.ref h_t, .int p0]) (n := 3) (Nat.le_of_ble_eq_true rfl)
  rw [lg_entry_eq]
  generalize (lg_sl ([.ref h_t, .int p0]) ++ List.replicate (3 - (lg_sl ([.ref h_t, .int p0])).length) Slot.unset).toArray = ls at hl ⊢
  have hl : lv_has ls 3 [(0, .ref h_t), (1, .int p0)] := hl
  have hinX9 : ∀ w ∈ wsX90, w ∈ wsX9_leaves_ := hin_of in_X9
  have h := hF
  unfold F_X9_leaves_ at h
  refine lv_iload_n hx hb dX9_leaves__0 rfl (lv_at hl 1 rfl) ?_
  refine lv_i2l (v := p0.toInt64) hx hb dX9_leaves__1 (by first | rfl | decide) ?_
  refine lv_ldc2 (v := (3 : Int64)) hx hb hown (hta _ mw_676) dX9_leaves__2 ?_
  refine lv_ldc2 (v := (6 : Int64)) hx hb hown (hta _ mw_751) dX9_leaves__5 ?_
  obtain ⟨x1, hx1, h⟩ := bd_e h
  try dsimp only at h
  refine k_SiU (n := 3) (As := [.long p0.toInt64, .long (3 : Int64), .long (6 : Int64)]) (rest := []) hx hb hml hown hts (c_X9_in l G cI cJ cD cH s.heap.size p0.toInt64 (3 : Int64) (6 : Int64) x1 hx1) gX9_leaves__X9_in rfl rfl rfl (by decide +kernel) ⟨by first | exact Nat.le_of_ble_eq_true rfl | (simp only [headSpec]; omega), by first | exact Nat.le_of_ble_eq_true rfl | (simp only [headSpec]; omega)⟩ hK hP hD hS hA [] (by decide) rfl rfl rfl hl.1 (Nat.le_of_ble_eq_true rfl) dX9_leaves__8 ⟨Nat.zero_le _, Nat.zero_le _⟩ (fun hp1 H locs hP hS => ?_)
  refine lv_if_ne (tgt := 16) hx hb dX9_leaves__11 (by decide) (fun c2 => ?_) (fun c2 => ?_)
  rotate_left
  · have h := it_p h c2
    refine lv_iconst (v := (-1 : Int32)) hx hb dX9_leaves__14 (by decide) ?_
    have h9 := Option.some.inj h
    have e9 : (-1 : Int32) = r0 := congrArg (fun z9 => z9.1) h9
    rw [← e9]
    have e9 : a_t_before = w0 := congrArg (fun z9 => z9.2.1) h9
    rw [← e9]
    have e9 : a_t_behind = w1 := congrArg (fun z9 => z9.2.2.1) h9
    rw [← e9]
    have e9 : a_t_ahead = w2 := congrArg (fun z9 => z9.2.2.2.1) h9
    rw [← e9]
    have e9 : t_undone = w3 := congrArg (fun z9 => z9.2.2.2.2.1) h9
    rw [← e9]
    have e9 : t_leaves = w4 := congrArg (fun z9 => z9.2.2.2.2.2.1) h9
    rw [← e9]
    have e9 : t_splits = w5 := congrArg (fun z9 => z9.2.2.2.2.2.2.1) h9
    rw [← e9]
    have e9 : t_done = w6 := congrArg (fun z9 => z9.2.2.2.2.2.2.2) h9
    rw [← e9]
    exact k_iret hx hb hr hlocks hP hS rfl dX9_leaves__15
  have h := it_n h c2
  refine lv_aload_n hx hb dX9_leaves__16 rfl (lv_at hl 0 rfl) ?_
  refine va_get (D := G) (ci := 8) (v := .int t_leaves) (C := RX9) (T := TX9) (N := 42) hx hb hts hinX9 hown hK hP 0 rfl rfl 3 (by decide) (hta _ mw_609) (fun _ h9 => h9) rfl dX9_leaves__17 ?_
  refine lv_istore_n (lv' := [(2, .int t_leaves), (0, .ref h_t), (1, .int p0)]) hx hb dX9_leaves__20 rfl hl (by decide) rfl (fun ls hl => ?_)
  refine lv_aload_n hx hb dX9_leaves__21 rfl (lv_at hl 1 rfl) ?_
  obtain ⟨x3, hx3, h⟩ := bd_e h
  try dsimp only at h
  refine k_VvM (n := 0) (As := []) (rest := []) hx hb hml hown hts (c_X9_begins l G cI cJ cD cH H.size h_t h_t_before h_t_powers h_t_tree h_t_ahead h_t_behind h_t_rows h_t_met h_t_metSizes h_t_chosen h_t_tape h_t_toldPowers h_t_powerPlaces h_t_toldTree h_t_splitPlaces h_t_layers h_t_paper h_t_held h_t_numbers h_t_sizes h_t_heldLeaves h_t_items h_t_kept t_genus t_marks t_leaves t_splits t_done t_undone t_metMany t_treesSeen t_taped t_place t_isWrong t_toldGenus t_toldMarks t_isTree t_toldLeaves t_leavesPlace t_toldSplits t_isWhy t_papered t_isKept a_t_before a_t_powers a_t_tree x3 hx3) gX9_leaves__X9_begins rfl rfl rfl (by decide +kernel) ⟨by first | exact Nat.le_of_ble_eq_true rfl | (simp only [headSpec]; omega), by first | exact Nat.le_of_ble_eq_true rfl | (simp only [headSpec]; omega)⟩ hK hP hD hS hA [0, 1, 2, 3] (by decide) rfl rfl (ci := 8) rfl rfl rfl rfl rfl hl.1 (Nat.le_of_ble_eq_true rfl) dX9_leaves__22 ⟨Nat.zero_le _, Nat.zero_le _⟩ [(h_t, .inr (8, [.int t_genus, .int t_marks, .ref h_t_powers, .int t_leaves, .int t_splits, .ref h_t_tree, .ref h_t_ahead, .ref h_t_behind, .ref h_t_before, .int t_done, .int t_undone, .ref h_t_rows, .ref h_t_met, .ref h_t_metSizes, .int t_metMany, .int t_treesSeen, .ref h_t_chosen, .ref h_t_tape, .int t_taped, .int t_place, .int t_isWrong, .int t_toldGenus, .int t_toldMarks, .ref h_t_toldPowers, .ref h_t_powerPlaces, .int t_isTree, .int t_toldLeaves, .int t_leavesPlace, .int t_toldSplits, .ref h_t_toldTree, .ref h_t_splitPlaces, .ref h_t_layers, .int t_isWhy, .ref h_t_paper, .int t_papered, .ref h_t_held, .ref h_t_numbers, .ref h_t_sizes, .ref h_t_heldLeaves, .ref h_t_items, .ref h_t_kept, .int t_isKept])), (h_t_before, .inl (cI, 16, .inl x3)), (h_t_powers, .inl (cI, 8, .inl a_t_powers)), (h_t_tree, .inl (cI, 3, .inl a_t_tree)), (h_t_behind, .inl (cI, 144, .inl a_t_behind)), (h_t_ahead, .inl (cI, 144, .inl a_t_ahead))] [1, 2, 3, 4, 0, 0] 4 (by decide +kernel) rfl rfl rfl (fun hp3 H locs hP hD hS => ?_)
  refine lv_aload_n hx hb dX9_leaves__25 rfl (lv_at hl 1 rfl) ?_
  refine lv_iload_n hx hb dX9_leaves__26 rfl (lv_at hl 2 rfl) ?_
  refine va_put (D := G) (ci := 8) (v := .int p0) (ty := .int) (C := RX9) (T := TX9) (N := 42) hx hb hts hinX9 tyX9 tyX9_ok nmX9 hown hK hP hD hS 0 rfl rfl 3 (by decide) (hta _ mw_609) (fun _ h9 => h9) rfl (by decide +kernel) rfl rfl (Nat.le_of_ble_eq_true rfl) dX9_leaves__27 (fun H locs hP hD hS => ?_)
  have hP : va_P G vwCl [(h_t, .inr (8, [.int t_genus, .int t_marks, .ref h_t_powers, .int p0, .int t_splits, .ref h_t_tree, .ref h_t_ahead, .ref h_t_behind, .ref h_t_before, .int t_done, .int t_undone, .ref h_t_rows, .ref h_t_met, .ref h_t_metSizes, .int t_metMany, .int t_treesSeen, .ref h_t_chosen, .ref h_t_tape, .int t_taped, .int t_place, .int t_isWrong, .int t_toldGenus, .int t_toldMarks, .ref h_t_toldPowers, .ref h_t_powerPlaces, .int t_isTree, .int t_toldLeaves, .int t_leavesPlace, .int t_toldSplits, .ref h_t_toldTree, .ref h_t_splitPlaces, .ref h_t_layers, .int t_isWhy, .ref h_t_paper, .int t_papered, .ref h_t_held, .ref h_t_numbers, .ref h_t_sizes, .ref h_t_heldLeaves, .ref h_t_items, .ref h_t_kept, .int t_isKept])), (h_t_before, .inl (cI, 16, .inl x3)), (h_t_powers, .inl (cI, 8, .inl a_t_powers)), (h_t_tree, .inl (cI, 3, .inl a_t_tree)), (h_t_behind, .inl (cI, 144, .inl a_t_behind)), (h_t_ahead, .inl (cI, 144, .inl a_t_ahead))] H := hP
  have hD : va_D A [(h_t, .inr (8, [.int t_genus, .int t_marks, .ref h_t_powers, .int p0, .int t_splits, .ref h_t_tree, .ref h_t_ahead, .ref h_t_behind, .ref h_t_before, .int t_done, .int t_undone, .ref h_t_rows, .ref h_t_met, .ref h_t_metSizes, .int t_metMany, .int t_treesSeen, .ref h_t_chosen, .ref h_t_tape, .int t_taped, .int t_place, .int t_isWrong, .int t_toldGenus, .int t_toldMarks, .ref h_t_toldPowers, .ref h_t_powerPlaces, .int t_isTree, .int t_toldLeaves, .int t_leavesPlace, .int t_toldSplits, .ref h_t_toldTree, .ref h_t_splitPlaces, .ref h_t_layers, .int t_isWhy, .ref h_t_paper, .int t_papered, .ref h_t_held, .ref h_t_numbers, .ref h_t_sizes, .ref h_t_heldLeaves, .ref h_t_items, .ref h_t_kept, .int t_isKept])), (h_t_before, .inl (cI, 16, .inl x3)), (h_t_powers, .inl (cI, 8, .inl a_t_powers)), (h_t_tree, .inl (cI, 3, .inl a_t_tree)), (h_t_behind, .inl (cI, 144, .inl a_t_behind)), (h_t_ahead, .inl (cI, 144, .inl a_t_ahead))] := hD
  refine lv_aload_n hx hb dX9_leaves__30 rfl (lv_at hl 1 rfl) ?_
  refine lv_iconst (v := (0 : Int32)) hx hb dX9_leaves__31 (by decide) ?_
  refine va_put (D := G) (ci := 8) (v := .int (0 : Int32)) (ty := .int) (C := RX9) (T := TX9) (N := 42) hx hb hts hinX9 tyX9 tyX9_ok nmX9 hown hK hP hD hS 0 rfl rfl 4 (by decide) (hta _ mw_642) (fun _ h9 => h9) rfl (by decide +kernel) rfl rfl (Nat.le_of_ble_eq_true rfl) dX9_leaves__32 (fun H locs hP hD hS => ?_)
  have hP : va_P G vwCl [(h_t, .inr (8, [.int t_genus, .int t_marks, .ref h_t_powers, .int p0, .int (0 : Int32), .ref h_t_tree, .ref h_t_ahead, .ref h_t_behind, .ref h_t_before, .int t_done, .int t_undone, .ref h_t_rows, .ref h_t_met, .ref h_t_metSizes, .int t_metMany, .int t_treesSeen, .ref h_t_chosen, .ref h_t_tape, .int t_taped, .int t_place, .int t_isWrong, .int t_toldGenus, .int t_toldMarks, .ref h_t_toldPowers, .ref h_t_powerPlaces, .int t_isTree, .int t_toldLeaves, .int t_leavesPlace, .int t_toldSplits, .ref h_t_toldTree, .ref h_t_splitPlaces, .ref h_t_layers, .int t_isWhy, .ref h_t_paper, .int t_papered, .ref h_t_held, .ref h_t_numbers, .ref h_t_sizes, .ref h_t_heldLeaves, .ref h_t_items, .ref h_t_kept, .int t_isKept])), (h_t_before, .inl (cI, 16, .inl x3)), (h_t_powers, .inl (cI, 8, .inl a_t_powers)), (h_t_tree, .inl (cI, 3, .inl a_t_tree)), (h_t_behind, .inl (cI, 144, .inl a_t_behind)), (h_t_ahead, .inl (cI, 144, .inl a_t_ahead))] H := hP
  have hD : va_D A [(h_t, .inr (8, [.int t_genus, .int t_marks, .ref h_t_powers, .int p0, .int (0 : Int32), .ref h_t_tree, .ref h_t_ahead, .ref h_t_behind, .ref h_t_before, .int t_done, .int t_undone, .ref h_t_rows, .ref h_t_met, .ref h_t_metSizes, .int t_metMany, .int t_treesSeen, .ref h_t_chosen, .ref h_t_tape, .int t_taped, .int t_place, .int t_isWrong, .int t_toldGenus, .int t_toldMarks, .ref h_t_toldPowers, .ref h_t_powerPlaces, .int t_isTree, .int t_toldLeaves, .int t_leavesPlace, .int t_toldSplits, .ref h_t_toldTree, .ref h_t_splitPlaces, .ref h_t_layers, .int t_isWhy, .ref h_t_paper, .int t_papered, .ref h_t_held, .ref h_t_numbers, .ref h_t_sizes, .ref h_t_heldLeaves, .ref h_t_items, .ref h_t_kept, .int t_isKept])), (h_t_before, .inl (cI, 16, .inl x3)), (h_t_powers, .inl (cI, 8, .inl a_t_powers)), (h_t_tree, .inl (cI, 3, .inl a_t_tree)), (h_t_behind, .inl (cI, 144, .inl a_t_behind)), (h_t_ahead, .inl (cI, 144, .inl a_t_ahead))] := hD
  refine lv_aload_n hx hb dX9_leaves__35 rfl (lv_at hl 1 rfl) ?_
  obtain ⟨x4, hx4, h⟩ := bd_e h
  try dsimp only at h
  refine k_VvM (n := 0) (As := []) (rest := []) hx hb hml hown hts (c_X9_ends l G cI cJ cD cH H.size h_t h_t_behind h_t_powers h_t_tree h_t_before h_t_ahead h_t_rows h_t_met h_t_metSizes h_t_chosen h_t_tape h_t_toldPowers h_t_powerPlaces h_t_toldTree h_t_splitPlaces h_t_layers h_t_paper h_t_held h_t_numbers h_t_sizes h_t_heldLeaves h_t_items h_t_kept t_genus t_marks p0 (0 : Int32) t_done t_undone t_metMany t_treesSeen t_taped t_place t_isWrong t_toldGenus t_toldMarks t_isTree t_toldLeaves t_leavesPlace t_toldSplits t_isWhy t_papered t_isKept a_t_behind a_t_powers a_t_tree x3 a_t_ahead (x4.1) (x4.2.1) (x4.2.2.1) (x4.2.2.2) hx4) gX9_leaves__X9_ends rfl rfl rfl (by decide +kernel) ⟨by first | exact Nat.le_of_ble_eq_true rfl | (simp only [headSpec]; omega), by first | exact Nat.le_of_ble_eq_true rfl | (simp only [headSpec]; omega)⟩ hK hP hD hS hA [0, 4, 2, 3, 1, 5] (by decide) rfl rfl (ci := 8) rfl rfl rfl rfl rfl hl.1 (Nat.le_of_ble_eq_true rfl) dX9_leaves__36 ⟨Nat.zero_le _, Nat.zero_le _⟩ [(h_t, .inr (8, [.int t_genus, .int t_marks, .ref h_t_powers, .int p0, .int (0 : Int32), .ref h_t_tree, .ref h_t_ahead, .ref h_t_behind, .ref h_t_before, .int (x4.2.2.2), .int (x4.2.2.1), .ref h_t_rows, .ref h_t_met, .ref h_t_metSizes, .int t_metMany, .int t_treesSeen, .ref h_t_chosen, .ref h_t_tape, .int t_taped, .int t_place, .int t_isWrong, .int t_toldGenus, .int t_toldMarks, .ref h_t_toldPowers, .ref h_t_powerPlaces, .int t_isTree, .int t_toldLeaves, .int t_leavesPlace, .int t_toldSplits, .ref h_t_toldTree, .ref h_t_splitPlaces, .ref h_t_layers, .int t_isWhy, .ref h_t_paper, .int t_papered, .ref h_t_held, .ref h_t_numbers, .ref h_t_sizes, .ref h_t_heldLeaves, .ref h_t_items, .ref h_t_kept, .int t_isKept])), (h_t_before, .inl (cI, 16, .inl x3)), (h_t_powers, .inl (cI, 8, .inl a_t_powers)), (h_t_tree, .inl (cI, 3, .inl a_t_tree)), (h_t_behind, .inl (cI, 144, .inl (x4.1))), (h_t_ahead, .inl (cI, 144, .inl (x4.2.1)))] [1, 5, 3, 4, 2, 6] 6 (by decide +kernel) rfl rfl rfl (fun hp4 H locs hP hD hS => ?_)
  refine lv_iload_n hx hb dX9_leaves__39 rfl (lv_at hl 0 rfl) ?_
  have h9 := Option.some.inj h
  have e9 : t_leaves = r0 := congrArg (fun z9 => z9.1) h9
  rw [← e9]
  have e9 : x3 = w0 := congrArg (fun z9 => z9.2.1) h9
  rw [← e9]
  have e9 : (x4.1) = w1 := congrArg (fun z9 => z9.2.2.1) h9
  rw [← e9]
  have e9 : (x4.2.1) = w2 := congrArg (fun z9 => z9.2.2.2.1) h9
  rw [← e9]
  have e9 : (x4.2.2.1) = w3 := congrArg (fun z9 => z9.2.2.2.2.1) h9
  rw [← e9]
  have e9 : p0 = w4 := congrArg (fun z9 => z9.2.2.2.2.2.1) h9
  rw [← e9]
  have e9 : (0 : Int32) = w5 := congrArg (fun z9 => z9.2.2.2.2.2.2.1) h9
  rw [← e9]
  have e9 : (x4.2.2.2) = w6 := congrArg (fun z9 => z9.2.2.2.2.2.2.2) h9
  rw [← e9]
  exact k_iret hx hb hr hlocks hP hS rfl dX9_leaves__40

/-! X9_comes -/
set_option maxHeartbeats 4000000 in
set_option maxRecDepth 100000 in
theorem c_X9_comes (l : Launch) (G : va_G) (cI cJ cD cH : ClassId) (sz : Nat) (h_t : Nat) (h_t_tree : Nat) (h_t_powers : Nat) (h_t_ahead : Nat) (h_t_behind : Nat) (h_t_before : Nat) (h_t_rows : Nat) (h_t_met : Nat) (h_t_metSizes : Nat) (h_t_chosen : Nat) (h_t_tape : Nat) (h_t_toldPowers : Nat) (h_t_powerPlaces : Nat) (h_t_toldTree : Nat) (h_t_splitPlaces : Nat) (h_t_layers : Nat) (h_t_paper : Nat) (h_t_held : Nat) (h_t_numbers : Nat) (h_t_sizes : Nat) (h_t_heldLeaves : Nat) (h_t_items : Nat) (h_t_kept : Nat) (t_genus : Int32) (t_marks : Int32) (t_leaves : Int32) (t_splits : Int32) (t_done : Int32) (t_undone : Int32) (t_metMany : Int32) (t_treesSeen : Int32) (t_taped : Int32) (t_place : Int32) (t_isWrong : Int32) (t_toldGenus : Int32) (t_toldMarks : Int32) (t_isTree : Int32) (t_toldLeaves : Int32) (t_leavesPlace : Int32) (t_toldSplits : Int32) (t_isWhy : Int32) (t_papered : Int32) (t_isKept : Int32) (a_t_tree : Nat → Int32) (p0 : Int32) (w0 : Nat → Int32) (w1 : Int32) (hF : F_X9_comes t_splits a_t_tree p0 = some (w0, w1)) : Met l yX9_comes wsX9_comes ({ frames := 1, cells := 0, slots := 0, locals := 25 }) (k_pre G (k_T cI cJ cD cH) [(h_t, .inr (8, [.int t_genus, .int t_marks, .ref h_t_powers, .int t_leaves, .int t_splits, .ref h_t_tree, .ref h_t_ahead, .ref h_t_behind, .ref h_t_before, .int t_done, .int t_undone, .ref h_t_rows, .ref h_t_met, .ref h_t_metSizes, .int t_metMany, .int t_treesSeen, .ref h_t_chosen, .ref h_t_tape, .int t_taped, .int t_place, .int t_isWrong, .int t_toldGenus, .int t_toldMarks, .ref h_t_toldPowers, .ref h_t_powerPlaces, .int t_isTree, .int t_toldLeaves, .int t_leavesPlace, .int t_toldSplits, .ref h_t_toldTree, .ref h_t_splitPlaces, .ref h_t_layers, .int t_isWhy, .ref h_t_paper, .int t_papered, .ref h_t_held, .ref h_t_numbers, .ref h_t_sizes, .ref h_t_heldLeaves, .ref h_t_items, .ref h_t_kept, .int t_isKept])), (h_t_tree, .inl (cI, 3, .inl a_t_tree))] sz [.ref h_t, .int p0]) (va_Qv (fun (_ : Unit) => True) (fun _ t => va_P G vwCl [(h_t, .inr (8, [.int t_genus, .int t_marks, .ref h_t_powers, .int t_leaves, .int w1, .ref h_t_tree, .ref h_t_ahead, .ref h_t_behind, .ref h_t_before, .int t_done, .int t_undone, .ref h_t_rows, .ref h_t_met, .ref h_t_metSizes, .int t_metMany, .int t_treesSeen, .ref h_t_chosen, .ref h_t_tape, .int t_taped, .int t_place, .int t_isWrong, .int t_toldGenus, .int t_toldMarks, .ref h_t_toldPowers, .ref h_t_powerPlaces, .int t_isTree, .int t_toldLeaves, .int t_leavesPlace, .int t_toldSplits, .ref h_t_toldTree, .ref h_t_splitPlaces, .ref h_t_layers, .int t_isWhy, .ref h_t_paper, .int t_papered, .ref h_t_held, .ref h_t_numbers, .ref h_t_sizes, .ref h_t_heldLeaves, .ref h_t_items, .ref h_t_kept, .int t_isKept])), (h_t_tree, .inl (cI, 3, .inl w0))] t.heap) (va_A [(h_t, .inr (8, [.int t_genus, .int t_marks, .ref h_t_powers, .int t_leaves, .int t_splits, .ref h_t_tree, .ref h_t_ahead, .ref h_t_behind, .ref h_t_before, .int t_done, .int t_undone, .ref h_t_rows, .ref h_t_met, .ref h_t_metSizes, .int t_metMany, .int t_treesSeen, .ref h_t_chosen, .ref h_t_tape, .int t_taped, .int t_place, .int t_isWrong, .int t_toldGenus, .int t_toldMarks, .ref h_t_toldPowers, .ref h_t_powerPlaces, .int t_isTree, .int t_toldLeaves, .int t_leavesPlace, .int t_toldSplits, .ref h_t_toldTree, .ref h_t_splitPlaces, .ref h_t_layers, .int t_isWhy, .ref h_t_paper, .int t_papered, .ref h_t_held, .ref h_t_numbers, .ref h_t_sizes, .ref h_t_heldLeaves, .ref h_t_items, .ref h_t_kept, .int t_isKept])), (h_t_tree, .inl (cI, 3, .inl a_t_tree))] sz)) 0 0 (va_A [(h_t, .inr (8, [.int t_genus, .int t_marks, .ref h_t_powers, .int t_leaves, .int t_splits, .ref h_t_tree, .ref h_t_ahead, .ref h_t_behind, .ref h_t_before, .int t_done, .int t_undone, .ref h_t_rows, .ref h_t_met, .ref h_t_metSizes, .int t_metMany, .int t_treesSeen, .ref h_t_chosen, .ref h_t_tape, .int t_taped, .int t_place, .int t_isWrong, .int t_toldGenus, .int t_toldMarks, .ref h_t_toldPowers, .ref h_t_powerPlaces, .int t_isTree, .int t_toldLeaves, .int t_leavesPlace, .int t_toldSplits, .ref h_t_toldTree, .ref h_t_splitPlaces, .ref h_t_layers, .int t_isWhy, .ref h_t_paper, .int t_papered, .ref h_t_held, .ref h_t_numbers, .ref h_t_sizes, .ref h_t_heldLeaves, .ref h_t_items, .ref h_t_kept, .int t_isKept])), (h_t_tree, .inl (cI, 3, .inl a_t_tree))] sz) := by
  refine Met.ofW (cc := cX9_comes) (maxL := 2) (ret := none) (by decide) rfl ?_
  intro p e s m args below meth c s₁ B hml hv
  obtain ⟨rfl, hsz, hP, hK, hD0⟩ := hv
  have hx := B.exec
  have hb := B.bytes
  have hr := B.returns
  have hts := atoms_spec (ws := wsX9_comes) B.pre
  have hta : ∀ w ∈ wA, w.before ([.ref h_t, .int p0] : List Value).toArray s = true := hta_of hts
  have hown : s.vm.findClass RX9 = some m.cls := findClass_of_methodNamed B.named
  have hlocks := B.notSynchronized
  subst hsz
  have hD := hD0.self (sz := s.heap.size)
  generalize hAe : va_A [(h_t, .inr (8, [.int t_genus, .int t_marks, .ref h_t_powers, .int t_leaves, .int t_splits, .ref h_t_tree, .ref h_t_ahead, .ref h_t_behind, .ref h_t_before, .int t_done, .int t_undone, .ref h_t_rows, .ref h_t_met, .ref h_t_metSizes, .int t_metMany, .int t_treesSeen, .ref h_t_chosen, .ref h_t_tape, .int t_taped, .int t_place, .int t_isWrong, .int t_toldGenus, .int t_toldMarks, .ref h_t_toldPowers, .ref h_t_powerPlaces, .int t_isTree, .int t_toldLeaves, .int t_leavesPlace, .int t_toldSplits, .ref h_t_toldTree, .ref h_t_splitPlaces, .ref h_t_layers, .int t_isWhy, .ref h_t_paper, .int t_papered, .ref h_t_held, .ref h_t_numbers, .ref h_t_sizes, .ref h_t_heldLeaves, .ref h_t_items, .ref h_t_kept, .int t_isKept])), (h_t_tree, .inl (cI, 3, .inl a_t_tree))] s.heap.size = A at hD ⊢
  have hA : ∀ q : Nat, s.heap.size ≤ q → A q := fun q h => by rw [← hAe]; exact Or.inr h
  have hS : va_S A s.heap s.heap [] := va_S.rf
  have hl := lv_entry ([.ref h_t, .int p0]) (n := 2) (Nat.le_of_ble_eq_true rfl)
  rw [lg_entry_eq]
  generalize (lg_sl ([.ref h_t, .int p0]) ++ List.replicate (2 - (lg_sl ([.ref h_t, .int p0])).length) Slot.unset).toArray = ls at hl ⊢
  have hl : lv_has ls 2 [(0, .ref h_t), (1, .int p0)] := hl
  have hinX9 : ∀ w ∈ wsX90, w ∈ wsX9_comes := hin_of in_X9
  have h := hF
  unfold F_X9_comes at h
  refine lv_aload_n hx hb dX9_comes_0 rfl (lv_at hl 0 rfl) ?_
  refine va_get (D := G) (ci := 8) (v := .ref h_t_tree) (C := RX9) (T := TX9) (N := 42) hx hb hts hinX9 hown hK hP 0 rfl rfl 5 (by decide) (hta _ mw_610) (fun _ h9 => h9) rfl dX9_comes_1 ?_
  refine lv_aload_n hx hb dX9_comes_4 rfl (lv_at hl 0 rfl) ?_
  refine va_get (D := G) (ci := 8) (v := .int t_splits) (C := RX9) (T := TX9) (N := 42) hx hb hts hinX9 hown hK hP 0 rfl rfl 4 (by decide) (hta _ mw_642) (fun _ h9 => h9) rfl dX9_comes_5 ?_
  refine lv_iload_n hx hb dX9_comes_8 rfl (lv_at hl 1 rfl) ?_
  obtain ⟨hn1, h⟩ := ck_e h
  refine va_iast hx hb hK hP hD hS 1 0 rfl rfl hn1 dX9_comes_9 (fun H locs hP hD hS => ?_)
  have hP : va_P G vwCl [(h_t, .inr (8, [.int t_genus, .int t_marks, .ref h_t_powers, .int t_leaves, .int t_splits, .ref h_t_tree, .ref h_t_ahead, .ref h_t_behind, .ref h_t_before, .int t_done, .int t_undone, .ref h_t_rows, .ref h_t_met, .ref h_t_metSizes, .int t_metMany, .int t_treesSeen, .ref h_t_chosen, .ref h_t_tape, .int t_taped, .int t_place, .int t_isWrong, .int t_toldGenus, .int t_toldMarks, .ref h_t_toldPowers, .ref h_t_powerPlaces, .int t_isTree, .int t_toldLeaves, .int t_leavesPlace, .int t_toldSplits, .ref h_t_toldTree, .ref h_t_splitPlaces, .ref h_t_layers, .int t_isWhy, .ref h_t_paper, .int t_papered, .ref h_t_held, .ref h_t_numbers, .ref h_t_sizes, .ref h_t_heldLeaves, .ref h_t_items, .ref h_t_kept, .int t_isKept])), (h_t_tree, .inl (cI, 3, .inl (upd a_t_tree t_splits.toNatClampNeg p0)))] H := hP
  have hD : va_D A [(h_t, .inr (8, [.int t_genus, .int t_marks, .ref h_t_powers, .int t_leaves, .int t_splits, .ref h_t_tree, .ref h_t_ahead, .ref h_t_behind, .ref h_t_before, .int t_done, .int t_undone, .ref h_t_rows, .ref h_t_met, .ref h_t_metSizes, .int t_metMany, .int t_treesSeen, .ref h_t_chosen, .ref h_t_tape, .int t_taped, .int t_place, .int t_isWrong, .int t_toldGenus, .int t_toldMarks, .ref h_t_toldPowers, .ref h_t_powerPlaces, .int t_isTree, .int t_toldLeaves, .int t_leavesPlace, .int t_toldSplits, .ref h_t_toldTree, .ref h_t_splitPlaces, .ref h_t_layers, .int t_isWhy, .ref h_t_paper, .int t_papered, .ref h_t_held, .ref h_t_numbers, .ref h_t_sizes, .ref h_t_heldLeaves, .ref h_t_items, .ref h_t_kept, .int t_isKept])), (h_t_tree, .inl (cI, 3, .inl (upd a_t_tree t_splits.toNatClampNeg p0)))] := hD
  refine lv_aload_n hx hb dX9_comes_10 rfl (lv_at hl 0 rfl) ?_
  refine lv_dup hx hb dX9_comes_11 rfl ?_
  refine va_get (D := G) (ci := 8) (v := .int t_splits) (C := RX9) (T := TX9) (N := 42) hx hb hts hinX9 hown hK hP 0 rfl rfl 4 (by decide) (hta _ mw_642) (fun _ h9 => h9) rfl dX9_comes_12 ?_
  refine lv_iconst (v := (1 : Int32)) hx hb dX9_comes_15 (by decide) ?_
  refine lv_iadd hx hb dX9_comes_16 ?_
  refine va_put (D := G) (ci := 8) (v := .int (t_splits + (1 : Int32))) (ty := .int) (C := RX9) (T := TX9) (N := 42) hx hb hts hinX9 tyX9 tyX9_ok nmX9 hown hK hP hD hS 0 rfl rfl 4 (by decide) (hta _ mw_642) (fun _ h9 => h9) rfl (by decide +kernel) rfl rfl (Nat.le_of_ble_eq_true rfl) dX9_comes_17 (fun H locs hP hD hS => ?_)
  have hP : va_P G vwCl [(h_t, .inr (8, [.int t_genus, .int t_marks, .ref h_t_powers, .int t_leaves, .int (t_splits + (1 : Int32)), .ref h_t_tree, .ref h_t_ahead, .ref h_t_behind, .ref h_t_before, .int t_done, .int t_undone, .ref h_t_rows, .ref h_t_met, .ref h_t_metSizes, .int t_metMany, .int t_treesSeen, .ref h_t_chosen, .ref h_t_tape, .int t_taped, .int t_place, .int t_isWrong, .int t_toldGenus, .int t_toldMarks, .ref h_t_toldPowers, .ref h_t_powerPlaces, .int t_isTree, .int t_toldLeaves, .int t_leavesPlace, .int t_toldSplits, .ref h_t_toldTree, .ref h_t_splitPlaces, .ref h_t_layers, .int t_isWhy, .ref h_t_paper, .int t_papered, .ref h_t_held, .ref h_t_numbers, .ref h_t_sizes, .ref h_t_heldLeaves, .ref h_t_items, .ref h_t_kept, .int t_isKept])), (h_t_tree, .inl (cI, 3, .inl (upd a_t_tree t_splits.toNatClampNeg p0)))] H := hP
  have hD : va_D A [(h_t, .inr (8, [.int t_genus, .int t_marks, .ref h_t_powers, .int t_leaves, .int (t_splits + (1 : Int32)), .ref h_t_tree, .ref h_t_ahead, .ref h_t_behind, .ref h_t_before, .int t_done, .int t_undone, .ref h_t_rows, .ref h_t_met, .ref h_t_metSizes, .int t_metMany, .int t_treesSeen, .ref h_t_chosen, .ref h_t_tape, .int t_taped, .int t_place, .int t_isWrong, .int t_toldGenus, .int t_toldMarks, .ref h_t_toldPowers, .ref h_t_powerPlaces, .int t_isTree, .int t_toldLeaves, .int t_leavesPlace, .int t_toldSplits, .ref h_t_toldTree, .ref h_t_splitPlaces, .ref h_t_layers, .int t_isWhy, .ref h_t_paper, .int t_papered, .ref h_t_held, .ref h_t_numbers, .ref h_t_sizes, .ref h_t_heldLeaves, .ref h_t_items, .ref h_t_kept, .int t_isKept])), (h_t_tree, .inl (cI, 3, .inl (upd a_t_tree t_splits.toNatClampNeg p0)))] := hD
  refine lv_aload_n hx hb dX9_comes_20 rfl (lv_at hl 0 rfl) ?_
  refine va_get (D := G) (ci := 8) (v := .ref h_t_tree) (C := RX9) (T := TX9) (N := 42) hx hb hts hinX9 hown hK hP 0 rfl rfl 5 (by decide) (hta _ mw_610) (fun _ h9 => h9) rfl dX9_comes_21 ?_
  refine lv_aload_n hx hb dX9_comes_24 rfl (lv_at hl 0 rfl) ?_
  refine va_get (D := G) (ci := 8) (v := .int (t_splits + (1 : Int32))) (C := RX9) (T := TX9) (N := 42) hx hb hts hinX9 hown hK hP 0 rfl rfl 4 (by decide) (hta _ mw_642) (fun _ h9 => h9) rfl dX9_comes_25 ?_
  refine lv_iconst (v := (1 : Int32)) hx hb dX9_comes_28 (by decide) ?_
  obtain ⟨x2, hx2, h⟩ := bd_e h
  try dsimp only at h
  refine k_SvM (n := 3) (As := [.ref h_t_tree, .int (t_splits + (1 : Int32)), .int (1 : Int32)]) (rest := []) hx hb hml hown hts (c_X9_sorts l G cI cJ cD cH H.size h_t_tree 3 (upd a_t_tree t_splits.toNatClampNeg p0) (t_splits + (1 : Int32)) (1 : Int32) x2 hx2) gX9_comes_X9_sorts rfl rfl rfl (by decide +kernel) ⟨by first | exact Nat.le_of_ble_eq_true rfl | (simp only [headSpec]; omega), by first | exact Nat.le_of_ble_eq_true rfl | (simp only [headSpec]; omega)⟩ hK hP hD hS hA [1] (by decide) rfl rfl rfl rfl hl.1 (Nat.le_of_ble_eq_true rfl) dX9_comes_29 ⟨Nat.zero_le _, Nat.zero_le _⟩ [(h_t, .inr (8, [.int t_genus, .int t_marks, .ref h_t_powers, .int t_leaves, .int (t_splits + (1 : Int32)), .ref h_t_tree, .ref h_t_ahead, .ref h_t_behind, .ref h_t_before, .int t_done, .int t_undone, .ref h_t_rows, .ref h_t_met, .ref h_t_metSizes, .int t_metMany, .int t_treesSeen, .ref h_t_chosen, .ref h_t_tape, .int t_taped, .int t_place, .int t_isWrong, .int t_toldGenus, .int t_toldMarks, .ref h_t_toldPowers, .ref h_t_powerPlaces, .int t_isTree, .int t_toldLeaves, .int t_leavesPlace, .int t_toldSplits, .ref h_t_toldTree, .ref h_t_splitPlaces, .ref h_t_layers, .int t_isWhy, .ref h_t_paper, .int t_papered, .ref h_t_held, .ref h_t_numbers, .ref h_t_sizes, .ref h_t_heldLeaves, .ref h_t_items, .ref h_t_kept, .int t_isKept])), (h_t_tree, .inl (cI, 3, .inl x2))] [0, 1] 1 (by decide +kernel) rfl rfl rfl (fun hp2 H locs hP hD hS => ?_)
  have h9 := Option.some.inj h
  have e9 : x2 = w0 := congrArg (fun z9 => z9.1) h9
  rw [← e9]
  have e9 : (t_splits + (1 : Int32)) = w1 := congrArg (fun z9 => z9.2) h9
  rw [← e9]
  exact k_vret hx hb hr hlocks hP hS dX9_comes_32

/-! X9_split -/
set_option maxHeartbeats 4000000 in
set_option maxRecDepth 100000 in
theorem c_X9_split (l : Launch) (G : va_G) (cI cJ cD cH : ClassId) (sz : Nat) (h_t : Nat) (h_t_tree : Nat) (h_t_before : Nat) (h_t_powers : Nat) (h_t_behind : Nat) (h_t_ahead : Nat) (h_t_rows : Nat) (h_t_met : Nat) (h_t_metSizes : Nat) (h_t_chosen : Nat) (h_t_tape : Nat) (h_t_toldPowers : Nat) (h_t_powerPlaces : Nat) (h_t_toldTree : Nat) (h_t_splitPlaces : Nat) (h_t_layers : Nat) (h_t_paper : Nat) (h_t_held : Nat) (h_t_numbers : Nat) (h_t_sizes : Nat) (h_t_heldLeaves : Nat) (h_t_items : Nat) (h_t_kept : Nat) (t_genus : Int32) (t_marks : Int32) (t_leaves : Int32) (t_splits : Int32) (t_done : Int32) (t_undone : Int32) (t_metMany : Int32) (t_treesSeen : Int32) (t_taped : Int32) (t_place : Int32) (t_isWrong : Int32) (t_toldGenus : Int32) (t_toldMarks : Int32) (t_isTree : Int32) (t_toldLeaves : Int32) (t_leavesPlace : Int32) (t_toldSplits : Int32) (t_isWhy : Int32) (t_papered : Int32) (t_isKept : Int32) (a_t_tree : Nat → Int32) (a_t_before : Nat → Int32) (a_t_powers : Nat → Int32) (a_t_behind : Nat → Int32) (a_t_ahead : Nat → Int32) (p0 : Int32) (r0 : Int32) (w0 : Nat → Int32) (w1 : Nat → Int32) (w2 : Nat → Int32) (w3 : Nat → Int32) (w4 : Int32) (w5 : Int32) (w6 : Int32) (hF : F_X9_split t_genus t_marks t_leaves t_splits t_done t_undone a_t_tree a_t_before a_t_powers a_t_behind a_t_ahead p0 = some (r0, w0, w1, w2, w3, w4, w5, w6)) : Met l yX9_split wsX9_split ({ frames := 2, cells := 0, slots := 0, locals := 46 }) (k_pre G (k_T cI cJ cD cH) [(h_t, .inr (8, [.int t_genus, .int t_marks, .ref h_t_powers, .int t_leaves, .int t_splits, .ref h_t_tree, .ref h_t_ahead, .ref h_t_behind, .ref h_t_before, .int t_done, .int t_undone, .ref h_t_rows, .ref h_t_met, .ref h_t_metSizes, .int t_metMany, .int t_treesSeen, .ref h_t_chosen, .ref h_t_tape, .int t_taped, .int t_place, .int t_isWrong, .int t_toldGenus, .int t_toldMarks, .ref h_t_toldPowers, .ref h_t_powerPlaces, .int t_isTree, .int t_toldLeaves, .int t_leavesPlace, .int t_toldSplits, .ref h_t_toldTree, .ref h_t_splitPlaces, .ref h_t_layers, .int t_isWhy, .ref h_t_paper, .int t_papered, .ref h_t_held, .ref h_t_numbers, .ref h_t_sizes, .ref h_t_heldLeaves, .ref h_t_items, .ref h_t_kept, .int t_isKept])), (h_t_tree, .inl (cI, 3, .inl a_t_tree)), (h_t_before, .inl (cI, 16, .inl a_t_before)), (h_t_powers, .inl (cI, 8, .inl a_t_powers)), (h_t_behind, .inl (cI, 144, .inl a_t_behind)), (h_t_ahead, .inl (cI, 144, .inl a_t_ahead))] sz [.ref h_t, .int p0]) (va_Qi (fun r (_ : Unit) => r = r0 ∧ True) (fun _ t => va_P G vwCl [(h_t, .inr (8, [.int t_genus, .int t_marks, .ref h_t_powers, .int t_leaves, .int w5, .ref h_t_tree, .ref h_t_ahead, .ref h_t_behind, .ref h_t_before, .int w6, .int w4, .ref h_t_rows, .ref h_t_met, .ref h_t_metSizes, .int t_metMany, .int t_treesSeen, .ref h_t_chosen, .ref h_t_tape, .int t_taped, .int t_place, .int t_isWrong, .int t_toldGenus, .int t_toldMarks, .ref h_t_toldPowers, .ref h_t_powerPlaces, .int t_isTree, .int t_toldLeaves, .int t_leavesPlace, .int t_toldSplits, .ref h_t_toldTree, .ref h_t_splitPlaces, .ref h_t_layers, .int t_isWhy, .ref h_t_paper, .int t_papered, .ref h_t_held, .ref h_t_numbers, .ref h_t_sizes, .ref h_t_heldLeaves, .ref h_t_items, .ref h_t_kept, .int t_isKept])), (h_t_tree, .inl (cI, 3, .inl w0)), (h_t_before, .inl (cI, 16, .inl w1)), (h_t_powers, .inl (cI, 8, .inl a_t_powers)), (h_t_behind, .inl (cI, 144, .inl w2)), (h_t_ahead, .inl (cI, 144, .inl w3))] t.heap) (va_A [(h_t, .inr (8, [.int t_genus, .int t_marks, .ref h_t_powers, .int t_leaves, .int t_splits, .ref h_t_tree, .ref h_t_ahead, .ref h_t_behind, .ref h_t_before, .int t_done, .int t_undone, .ref h_t_rows, .ref h_t_met, .ref h_t_metSizes, .int t_metMany, .int t_treesSeen, .ref h_t_chosen, .ref h_t_tape, .int t_taped, .int t_place, .int t_isWrong, .int t_toldGenus, .int t_toldMarks, .ref h_t_toldPowers, .ref h_t_powerPlaces, .int t_isTree, .int t_toldLeaves, .int t_leavesPlace, .int t_toldSplits, .ref h_t_toldTree, .ref h_t_splitPlaces, .ref h_t_layers, .int t_isWhy, .ref h_t_paper, .int t_papered, .ref h_t_held, .ref h_t_numbers, .ref h_t_sizes, .ref h_t_heldLeaves, .ref h_t_items, .ref h_t_kept, .int t_isKept])), (h_t_tree, .inl (cI, 3, .inl a_t_tree)), (h_t_before, .inl (cI, 16, .inl a_t_before)), (h_t_powers, .inl (cI, 8, .inl a_t_powers)), (h_t_behind, .inl (cI, 144, .inl a_t_behind)), (h_t_ahead, .inl (cI, 144, .inl a_t_ahead))] sz)) 0 0 (va_A [(h_t, .inr (8, [.int t_genus, .int t_marks, .ref h_t_powers, .int t_leaves, .int t_splits, .ref h_t_tree, .ref h_t_ahead, .ref h_t_behind, .ref h_t_before, .int t_done, .int t_undone, .ref h_t_rows, .ref h_t_met, .ref h_t_metSizes, .int t_metMany, .int t_treesSeen, .ref h_t_chosen, .ref h_t_tape, .int t_taped, .int t_place, .int t_isWrong, .int t_toldGenus, .int t_toldMarks, .ref h_t_toldPowers, .ref h_t_powerPlaces, .int t_isTree, .int t_toldLeaves, .int t_leavesPlace, .int t_toldSplits, .ref h_t_toldTree, .ref h_t_splitPlaces, .ref h_t_layers, .int t_isWhy, .ref h_t_paper, .int t_papered, .ref h_t_held, .ref h_t_numbers, .ref h_t_sizes, .ref h_t_heldLeaves, .ref h_t_items, .ref h_t_kept, .int t_isKept])), (h_t_tree, .inl (cI, 3, .inl a_t_tree)), (h_t_before, .inl (cI, 16, .inl a_t_before)), (h_t_powers, .inl (cI, 8, .inl a_t_powers)), (h_t_behind, .inl (cI, 144, .inl a_t_behind)), (h_t_ahead, .inl (cI, 144, .inl a_t_ahead))] sz) := by
  refine Met.ofW (cc := cX9_split) (maxL := 2) (ret := (some .int)) (by decide) rfl ?_
  intro p e s m args below meth c s₁ B hml hv
  obtain ⟨rfl, hsz, hP, hK, hD0⟩ := hv
  have hx := B.exec
  have hb := B.bytes
  have hr := B.returns
  have hts := atoms_spec (ws := wsX9_split) B.pre
  have hta : ∀ w ∈ wA, w.before ([.ref h_t, .int p0] : List Value).toArray s = true := hta_of hts
  have hown : s.vm.findClass RX9 = some m.cls := findClass_of_methodNamed B.named
  have hlocks := B.notSynchronized
  subst hsz
  have hD := hD0.self (sz := s.heap.size)
  generalize hAe : va_A [(h_t, .inr (8, [.int t_genus, .int t_marks, .ref h_t_powers, .int t_leaves, .int t_splits, .ref h_t_tree, .ref h_t_ahead, .ref h_t_behind, .ref h_t_before, .int t_done, .int t_undone, .ref h_t_rows, .ref h_t_met, .ref h_t_metSizes, .int t_metMany, .int t_treesSeen, .ref h_t_chosen, .ref h_t_tape, .int t_taped, .int t_place, .int t_isWrong, .int t_toldGenus, .int t_toldMarks, .ref h_t_toldPowers, .ref h_t_powerPlaces, .int t_isTree, .int t_toldLeaves, .int t_leavesPlace, .int t_toldSplits, .ref h_t_toldTree, .ref h_t_splitPlaces, .ref h_t_layers, .int t_isWhy, .ref h_t_paper, .int t_papered, .ref h_t_held, .ref h_t_numbers, .ref h_t_sizes, .ref h_t_heldLeaves, .ref h_t_items, .ref h_t_kept, .int t_isKept])), (h_t_tree, .inl (cI, 3, .inl a_t_tree)), (h_t_before, .inl (cI, 16, .inl a_t_before)), (h_t_powers, .inl (cI, 8, .inl a_t_powers)), (h_t_behind, .inl (cI, 144, .inl a_t_behind)), (h_t_ahead, .inl (cI, 144, .inl a_t_ahead))] s.heap.size = A at hD ⊢
  have hA : ∀ q : Nat, s.heap.size ≤ q → A q := fun q h => by rw [← hAe]; exact Or.inr h
  have hS : va_S A s.heap s.heap [] := va_S.rf
  have hl := lv_entry ([.ref h_t, .int p0]) (n := 2) (Nat.le_of_ble_eq_true rfl)
  rw [lg_entry_eq]
  generalize (lg_sl ([.ref h_t, .int p0]) ++ List.replicate (2 - (lg_sl ([.ref h_t, .int p0])).length) Slot.unset).toArray = ls at hl ⊢
  have hl : lv_has ls 2 [(0, .ref h_t), (1, .int p0)] := hl
  have hinX9 : ∀ w ∈ wsX90, w ∈ wsX9_split := hin_of in_X9
  have h := hF
  unfold F_X9_split at h
  refine lv_iload_n hx hb dX9_split_0 rfl (lv_at hl 1 rfl) ?_
  refine lv_aload_n hx hb dX9_split_1 rfl (lv_at hl 0 rfl) ?_
  refine va_get (D := G) (ci := 8) (v := .int t_leaves) (C := RX9) (T := TX9) (N := 42) hx hb hts hinX9 hown hK hP 0 rfl rfl 3 (by decide) (hta _ mw_609) (fun _ h9 => h9) rfl dX9_split_2 ?_
  obtain ⟨x1, hx1, h⟩ := bd_e h
  try dsimp only at h
  refine k_SiU (n := 2) (As := [.int p0, .int t_leaves]) (rest := []) hx hb hml hown hts (c_X9_isSplit l G cI cJ cD cH s.heap.size p0 t_leaves x1 hx1) gX9_split_X9_isSplit rfl rfl rfl (by decide +kernel) ⟨by first | exact Nat.le_of_ble_eq_true rfl | (simp only [headSpec]; omega), by first | exact Nat.le_of_ble_eq_true rfl | (simp only [headSpec]; omega)⟩ hK hP hD hS hA [] (by decide) rfl rfl rfl hl.1 (Nat.le_of_ble_eq_true rfl) dX9_split_5 ⟨Nat.zero_le _, Nat.zero_le _⟩ (fun hp1 H locs hP hS => ?_)
  refine lv_if_ne (tgt := 13) hx hb dX9_split_8 (by decide) (fun c2 => ?_) (fun c2 => ?_)
  rotate_left
  · have h := it_p h c2
    refine lv_iconst (v := (-1 : Int32)) hx hb dX9_split_11 (by decide) ?_
    have h9 := Option.some.inj h
    have e9 : (-1 : Int32) = r0 := congrArg (fun z9 => z9.1) h9
    rw [← e9]
    have e9 : a_t_tree = w0 := congrArg (fun z9 => z9.2.1) h9
    rw [← e9]
    have e9 : a_t_before = w1 := congrArg (fun z9 => z9.2.2.1) h9
    rw [← e9]
    have e9 : a_t_behind = w2 := congrArg (fun z9 => z9.2.2.2.1) h9
    rw [← e9]
    have e9 : a_t_ahead = w3 := congrArg (fun z9 => z9.2.2.2.2.1) h9
    rw [← e9]
    have e9 : t_undone = w4 := congrArg (fun z9 => z9.2.2.2.2.2.1) h9
    rw [← e9]
    have e9 : t_splits = w5 := congrArg (fun z9 => z9.2.2.2.2.2.2.1) h9
    rw [← e9]
    have e9 : t_done = w6 := congrArg (fun z9 => z9.2.2.2.2.2.2.2) h9
    rw [← e9]
    exact k_iret hx hb hr hlocks hP hS rfl dX9_split_12
  have h := it_n h c2
  refine lv_aload_n hx hb dX9_split_13 rfl (lv_at hl 0 rfl) ?_
  refine lv_iload_n hx hb dX9_split_14 rfl (lv_at hl 1 rfl) ?_
  obtain ⟨x3, hx3, h⟩ := bd_e h
  try dsimp only at h
  refine k_ViU (n := 1) (As := [.int p0]) (rest := []) hx hb hml hown hts (c_X9_mayCome l G cI cJ cD cH H.size h_t h_t_tree h_t_powers h_t_ahead h_t_behind h_t_before h_t_rows h_t_met h_t_metSizes h_t_chosen h_t_tape h_t_toldPowers h_t_powerPlaces h_t_toldTree h_t_splitPlaces h_t_layers h_t_paper h_t_held h_t_numbers h_t_sizes h_t_heldLeaves h_t_items h_t_kept t_genus t_marks t_leaves t_splits t_done t_undone t_metMany t_treesSeen t_taped t_place t_isWrong t_toldGenus t_toldMarks t_isTree t_toldLeaves t_leavesPlace t_toldSplits t_isWhy t_papered t_isKept a_t_tree p0 x3 hx3) gX9_split_X9_mayCome rfl rfl rfl (by decide +kernel) ⟨by first | exact Nat.le_of_ble_eq_true rfl | (simp only [headSpec]; omega), by first | exact Nat.le_of_ble_eq_true rfl | (simp only [headSpec]; omega)⟩ hK hP hD hS hA [0, 1] (by decide) rfl (ci := 8) rfl rfl rfl rfl rfl hl.1 (Nat.le_of_ble_eq_true rfl) dX9_split_15 ⟨Nat.zero_le _, Nat.zero_le _⟩ (fun hp3 H locs hP hS => ?_)
  refine lv_if_ne (tgt := 24) hx hb dX9_split_18 (by decide) (fun c4 => ?_) (fun c4 => ?_)
  rotate_left
  · have h := it_p h c4
    refine lv_bipush (v := (-5 : Int32)) hx hb dX9_split_21 (by decide) ?_
    have h9 := Option.some.inj h
    have e9 : (-5 : Int32) = r0 := congrArg (fun z9 => z9.1) h9
    rw [← e9]
    have e9 : a_t_tree = w0 := congrArg (fun z9 => z9.2.1) h9
    rw [← e9]
    have e9 : a_t_before = w1 := congrArg (fun z9 => z9.2.2.1) h9
    rw [← e9]
    have e9 : a_t_behind = w2 := congrArg (fun z9 => z9.2.2.2.1) h9
    rw [← e9]
    have e9 : a_t_ahead = w3 := congrArg (fun z9 => z9.2.2.2.2.1) h9
    rw [← e9]
    have e9 : t_undone = w4 := congrArg (fun z9 => z9.2.2.2.2.2.1) h9
    rw [← e9]
    have e9 : t_splits = w5 := congrArg (fun z9 => z9.2.2.2.2.2.2.1) h9
    rw [← e9]
    have e9 : t_done = w6 := congrArg (fun z9 => z9.2.2.2.2.2.2.2) h9
    rw [← e9]
    exact k_iret hx hb hr hlocks hP hS rfl dX9_split_23
  have h := it_n h c4
  refine lv_aload_n hx hb dX9_split_24 rfl (lv_at hl 0 rfl) ?_
  obtain ⟨x5, hx5, h⟩ := bd_e h
  try dsimp only at h
  refine k_VvM (n := 0) (As := []) (rest := []) hx hb hml hown hts (c_X9_begins l G cI cJ cD cH H.size h_t h_t_before h_t_powers h_t_tree h_t_ahead h_t_behind h_t_rows h_t_met h_t_metSizes h_t_chosen h_t_tape h_t_toldPowers h_t_powerPlaces h_t_toldTree h_t_splitPlaces h_t_layers h_t_paper h_t_held h_t_numbers h_t_sizes h_t_heldLeaves h_t_items h_t_kept t_genus t_marks t_leaves t_splits t_done t_undone t_metMany t_treesSeen t_taped t_place t_isWrong t_toldGenus t_toldMarks t_isTree t_toldLeaves t_leavesPlace t_toldSplits t_isWhy t_papered t_isKept a_t_before a_t_powers a_t_tree x5 hx5) gX9_split_X9_begins rfl rfl rfl (by decide +kernel) ⟨by first | exact Nat.le_of_ble_eq_true rfl | (simp only [headSpec]; omega), by first | exact Nat.le_of_ble_eq_true rfl | (simp only [headSpec]; omega)⟩ hK hP hD hS hA [0, 2, 3, 1] (by decide) rfl rfl (ci := 8) rfl rfl rfl rfl rfl hl.1 (Nat.le_of_ble_eq_true rfl) dX9_split_25 ⟨Nat.zero_le _, Nat.zero_le _⟩ [(h_t, .inr (8, [.int t_genus, .int t_marks, .ref h_t_powers, .int t_leaves, .int t_splits, .ref h_t_tree, .ref h_t_ahead, .ref h_t_behind, .ref h_t_before, .int t_done, .int t_undone, .ref h_t_rows, .ref h_t_met, .ref h_t_metSizes, .int t_metMany, .int t_treesSeen, .ref h_t_chosen, .ref h_t_tape, .int t_taped, .int t_place, .int t_isWrong, .int t_toldGenus, .int t_toldMarks, .ref h_t_toldPowers, .ref h_t_powerPlaces, .int t_isTree, .int t_toldLeaves, .int t_leavesPlace, .int t_toldSplits, .ref h_t_toldTree, .ref h_t_splitPlaces, .ref h_t_layers, .int t_isWhy, .ref h_t_paper, .int t_papered, .ref h_t_held, .ref h_t_numbers, .ref h_t_sizes, .ref h_t_heldLeaves, .ref h_t_items, .ref h_t_kept, .int t_isKept])), (h_t_tree, .inl (cI, 3, .inl a_t_tree)), (h_t_before, .inl (cI, 16, .inl x5)), (h_t_powers, .inl (cI, 8, .inl a_t_powers)), (h_t_behind, .inl (cI, 144, .inl a_t_behind)), (h_t_ahead, .inl (cI, 144, .inl a_t_ahead))] [1, 4, 2, 3, 0, 0] 4 (by decide +kernel) rfl rfl rfl (fun hp5 H locs hP hD hS => ?_)
  refine lv_aload_n hx hb dX9_split_28 rfl (lv_at hl 0 rfl) ?_
  refine lv_iload_n hx hb dX9_split_29 rfl (lv_at hl 1 rfl) ?_
  obtain ⟨x6, hx6, h⟩ := bd_e h
  try dsimp only at h
  refine k_VvM (n := 1) (As := [.int p0]) (rest := []) hx hb hml hown hts (c_X9_comes l G cI cJ cD cH H.size h_t h_t_tree h_t_powers h_t_ahead h_t_behind h_t_before h_t_rows h_t_met h_t_metSizes h_t_chosen h_t_tape h_t_toldPowers h_t_powerPlaces h_t_toldTree h_t_splitPlaces h_t_layers h_t_paper h_t_held h_t_numbers h_t_sizes h_t_heldLeaves h_t_items h_t_kept t_genus t_marks t_leaves t_splits t_done t_undone t_metMany t_treesSeen t_taped t_place t_isWrong t_toldGenus t_toldMarks t_isTree t_toldLeaves t_leavesPlace t_toldSplits t_isWhy t_papered t_isKept a_t_tree p0 (x6.1) (x6.2) hx6) gX9_split_X9_comes rfl rfl rfl (by decide +kernel) ⟨by first | exact Nat.le_of_ble_eq_true rfl | (simp only [headSpec]; omega), by first | exact Nat.le_of_ble_eq_true rfl | (simp only [headSpec]; omega)⟩ hK hP hD hS hA [0, 1] (by decide) rfl rfl (ci := 8) rfl rfl rfl rfl rfl hl.1 (Nat.le_of_ble_eq_true rfl) dX9_split_30 ⟨Nat.zero_le _, Nat.zero_le _⟩ [(h_t, .inr (8, [.int t_genus, .int t_marks, .ref h_t_powers, .int t_leaves, .int (x6.2), .ref h_t_tree, .ref h_t_ahead, .ref h_t_behind, .ref h_t_before, .int t_done, .int t_undone, .ref h_t_rows, .ref h_t_met, .ref h_t_metSizes, .int t_metMany, .int t_treesSeen, .ref h_t_chosen, .ref h_t_tape, .int t_taped, .int t_place, .int t_isWrong, .int t_toldGenus, .int t_toldMarks, .ref h_t_toldPowers, .ref h_t_powerPlaces, .int t_isTree, .int t_toldLeaves, .int t_leavesPlace, .int t_toldSplits, .ref h_t_toldTree, .ref h_t_splitPlaces, .ref h_t_layers, .int t_isWhy, .ref h_t_paper, .int t_papered, .ref h_t_held, .ref h_t_numbers, .ref h_t_sizes, .ref h_t_heldLeaves, .ref h_t_items, .ref h_t_kept, .int t_isKept])), (h_t_tree, .inl (cI, 3, .inl (x6.1))), (h_t_before, .inl (cI, 16, .inl x5)), (h_t_powers, .inl (cI, 8, .inl a_t_powers)), (h_t_behind, .inl (cI, 144, .inl a_t_behind)), (h_t_ahead, .inl (cI, 144, .inl a_t_ahead))] [1, 2, 0, 0, 0, 0] 2 (by decide +kernel) rfl rfl rfl (fun hp6 H locs hP hD hS => ?_)
  refine lv_aload_n hx hb dX9_split_33 rfl (lv_at hl 0 rfl) ?_
  obtain ⟨x7, hx7, h⟩ := bd_e h
  try dsimp only at h
  refine k_VvM (n := 0) (As := []) (rest := []) hx hb hml hown hts (c_X9_ends l G cI cJ cD cH H.size h_t h_t_behind h_t_powers h_t_tree h_t_before h_t_ahead h_t_rows h_t_met h_t_metSizes h_t_chosen h_t_tape h_t_toldPowers h_t_powerPlaces h_t_toldTree h_t_splitPlaces h_t_layers h_t_paper h_t_held h_t_numbers h_t_sizes h_t_heldLeaves h_t_items h_t_kept t_genus t_marks t_leaves (x6.2) t_done t_undone t_metMany t_treesSeen t_taped t_place t_isWrong t_toldGenus t_toldMarks t_isTree t_toldLeaves t_leavesPlace t_toldSplits t_isWhy t_papered t_isKept a_t_behind a_t_powers (x6.1) x5 a_t_ahead (x7.1) (x7.2.1) (x7.2.2.1) (x7.2.2.2) hx7) gX9_split_X9_ends rfl rfl rfl (by decide +kernel) ⟨by first | exact Nat.le_of_ble_eq_true rfl | (simp only [headSpec]; omega), by first | exact Nat.le_of_ble_eq_true rfl | (simp only [headSpec]; omega)⟩ hK hP hD hS hA [0, 4, 3, 1, 2, 5] (by decide) rfl rfl (ci := 8) rfl rfl rfl rfl rfl hl.1 (Nat.le_of_ble_eq_true rfl) dX9_split_34 ⟨Nat.zero_le _, Nat.zero_le _⟩ [(h_t, .inr (8, [.int t_genus, .int t_marks, .ref h_t_powers, .int t_leaves, .int (x6.2), .ref h_t_tree, .ref h_t_ahead, .ref h_t_behind, .ref h_t_before, .int (x7.2.2.2), .int (x7.2.2.1), .ref h_t_rows, .ref h_t_met, .ref h_t_metSizes, .int t_metMany, .int t_treesSeen, .ref h_t_chosen, .ref h_t_tape, .int t_taped, .int t_place, .int t_isWrong, .int t_toldGenus, .int t_toldMarks, .ref h_t_toldPowers, .ref h_t_powerPlaces, .int t_isTree, .int t_toldLeaves, .int t_leavesPlace, .int t_toldSplits, .ref h_t_toldTree, .ref h_t_splitPlaces, .ref h_t_layers, .int t_isWhy, .ref h_t_paper, .int t_papered, .ref h_t_held, .ref h_t_numbers, .ref h_t_sizes, .ref h_t_heldLeaves, .ref h_t_items, .ref h_t_kept, .int t_isKept])), (h_t_tree, .inl (cI, 3, .inl (x6.1))), (h_t_before, .inl (cI, 16, .inl x5)), (h_t_powers, .inl (cI, 8, .inl a_t_powers)), (h_t_behind, .inl (cI, 144, .inl (x7.1))), (h_t_ahead, .inl (cI, 144, .inl (x7.2.1)))] [1, 4, 5, 3, 2, 6] 6 (by decide +kernel) rfl rfl rfl (fun hp7 H locs hP hD hS => ?_)
  refine lv_aload_n hx hb dX9_split_37 rfl (lv_at hl 0 rfl) ?_
  refine va_get (D := G) (ci := 8) (v := .int (x6.2)) (C := RX9) (T := TX9) (N := 42) hx hb hts hinX9 hown hK hP 0 rfl rfl 4 (by decide) (hta _ mw_642) (fun _ h9 => h9) rfl dX9_split_38 ?_
  have h9 := Option.some.inj h
  have e9 : (x6.2) = r0 := congrArg (fun z9 => z9.1) h9
  rw [← e9]
  have e9 : (x6.1) = w0 := congrArg (fun z9 => z9.2.1) h9
  rw [← e9]
  have e9 : x5 = w1 := congrArg (fun z9 => z9.2.2.1) h9
  rw [← e9]
  have e9 : (x7.1) = w2 := congrArg (fun z9 => z9.2.2.2.1) h9
  rw [← e9]
  have e9 : (x7.2.1) = w3 := congrArg (fun z9 => z9.2.2.2.2.1) h9
  rw [← e9]
  have e9 : (x7.2.2.1) = w4 := congrArg (fun z9 => z9.2.2.2.2.2.1) h9
  rw [← e9]
  have e9 : (x6.2) = w5 := congrArg (fun z9 => z9.2.2.2.2.2.2.1) h9
  rw [← e9]
  have e9 : (x7.2.2.2) = w6 := congrArg (fun z9 => z9.2.2.2.2.2.2.2) h9
  rw [← e9]
  exact k_iret hx hb hr hlocks hP hS rfl dX9_split_41

/-! X9_join -/
set_option maxHeartbeats 4000000 in
set_option maxRecDepth 100000 in
theorem tK_X9_join_42_70 {l : Launch} {G : va_G} {cI cJ cD cH : ClassId} {h_t : Nat} {h_t_tree : Nat} {h_t_before : Nat} {h_t_powers : Nat} {h_t_behind : Nat} {h_t_ahead : Nat} {h_t_rows : Nat} {h_t_met : Nat} {h_t_metSizes : Nat} {h_t_chosen : Nat} {h_t_tape : Nat} {h_t_toldPowers : Nat} {h_t_powerPlaces : Nat} {h_t_toldTree : Nat} {h_t_splitPlaces : Nat} {h_t_layers : Nat} {h_t_paper : Nat} {h_t_held : Nat} {h_t_numbers : Nat} {h_t_sizes : Nat} {h_t_heldLeaves : Nat} {h_t_items : Nat} {h_t_kept : Nat} {t_genus : Int32} {t_marks : Int32} {t_leaves : Int32} {t_splits : Int32} {t_done : Int32} {t_undone : Int32} {t_metMany : Int32} {t_treesSeen : Int32} {t_taped : Int32} {t_place : Int32} {t_isWrong : Int32} {t_toldGenus : Int32} {t_toldMarks : Int32} {t_isTree : Int32} {t_toldLeaves : Int32} {t_leavesPlace : Int32} {t_toldSplits : Int32} {t_isWhy : Int32} {t_papered : Int32} {t_isKept : Int32} {a_t_powers : Nat → Int32} {a_t_behind : Nat → Int32} {a_t_ahead : Nat → Int32} {p0 : Int32} {r0 : Int32} {w0 : Nat → Int32} {w1 : Nat → Int32} {w2 : Nat → Int32} {w3 : Nat → Int32} {w4 : Int32} {w5 : Int32} {w6 : Int32} {x5 : (Nat → Int32)} {p : Program} {e : Env} {s : State} {m : MethodId} {below : List Frame} {meth : Method} {c : Code} {A : Nat → Prop} (hx : p.tables.exec = Jvm.exec) (hb : c.code = cX9_join) (hr : meth.sig.returnType = (some .int)) (hml : c.maxLocals = 4) (hts : ∀ w ∈ wsX9_join, w.before ([.ref h_t, .int p0] : List Value).toArray s = true) (hown : s.vm.findClass RX9 = some m.cls) (hlocks : meth.locks = false) (hK : va_K G vwCl (k_T cI cJ cD cH) s) (hA : ∀ q : Nat, s.heap.size ≤ q → A q) : ∀  (vK42_70_0 : Nat → Int32) (H : Heap) (locs : List Loc) (ls : Array Slot), va_P G vwCl [(h_t, .inr (8, [.int t_genus, .int t_marks, .ref h_t_powers, .int t_leaves, .int (t_splits - (1 : Int32)), .ref h_t_tree, .ref h_t_ahead, .ref h_t_behind, .ref h_t_before, .int t_done, .int t_undone, .ref h_t_rows, .ref h_t_met, .ref h_t_metSizes, .int t_metMany, .int t_treesSeen, .ref h_t_chosen, .ref h_t_tape, .int t_taped, .int t_place, .int t_isWrong, .int t_toldGenus, .int t_toldMarks, .ref h_t_toldPowers, .ref h_t_powerPlaces, .int t_isTree, .int t_toldLeaves, .int t_leavesPlace, .int t_toldSplits, .ref h_t_toldTree, .ref h_t_splitPlaces, .ref h_t_layers, .int t_isWhy, .ref h_t_paper, .int t_papered, .ref h_t_held, .ref h_t_numbers, .ref h_t_sizes, .ref h_t_heldLeaves, .ref h_t_items, .ref h_t_kept, .int t_isKept])), (h_t_tree, .inl (cI, 3, .inl vK42_70_0)), (h_t_before, .inl (cI, 16, .inl x5)), (h_t_powers, .inl (cI, 8, .inl a_t_powers)), (h_t_behind, .inl (cI, 144, .inl a_t_behind)), (h_t_ahead, .inl (cI, 144, .inl a_t_ahead))] H → va_D A [(h_t, .inr (8, [.int t_genus, .int t_marks, .ref h_t_powers, .int t_leaves, .int (t_splits - (1 : Int32)), .ref h_t_tree, .ref h_t_ahead, .ref h_t_behind, .ref h_t_before, .int t_done, .int t_undone, .ref h_t_rows, .ref h_t_met, .ref h_t_metSizes, .int t_metMany, .int t_treesSeen, .ref h_t_chosen, .ref h_t_tape, .int t_taped, .int t_place, .int t_isWrong, .int t_toldGenus, .int t_toldMarks, .ref h_t_toldPowers, .ref h_t_powerPlaces, .int t_isTree, .int t_toldLeaves, .int t_leavesPlace, .int t_toldSplits, .ref h_t_toldTree, .ref h_t_splitPlaces, .ref h_t_layers, .int t_isWhy, .ref h_t_paper, .int t_papered, .ref h_t_held, .ref h_t_numbers, .ref h_t_sizes, .ref h_t_heldLeaves, .ref h_t_items, .ref h_t_kept, .int t_isKept])), (h_t_tree, .inl (cI, 3, .inl vK42_70_0)), (h_t_before, .inl (cI, 16, .inl x5)), (h_t_powers, .inl (cI, 8, .inl a_t_powers)), (h_t_behind, .inl (cI, 144, .inl a_t_behind)), (h_t_ahead, .inl (cI, 144, .inl a_t_ahead))] → va_S A s.heap H locs → lv_has ls 4 [(0, .ref h_t)] → K_X9_join_42_70 t_genus t_marks t_leaves t_splits t_done t_undone a_t_powers a_t_behind a_t_ahead x5 vK42_70_0 = some (r0, w0, w1, w2, w3, w4, w5, w6) → W p l e (headSpec wsX9_join ({ frames := 2, cells := 0, slots := 0, locals := 46 })).room s m ([.ref h_t, .int p0] : List Value).toArray below meth c H locs 0 0 (MQ below (va_Qi (fun r (_ : Unit) => r = r0 ∧ True) (fun _ t => va_P G vwCl [(h_t, .inr (8, [.int t_genus, .int t_marks, .ref h_t_powers, .int t_leaves, .int w5, .ref h_t_tree, .ref h_t_ahead, .ref h_t_behind, .ref h_t_before, .int w6, .int w4, .ref h_t_rows, .ref h_t_met, .ref h_t_metSizes, .int t_metMany, .int t_treesSeen, .ref h_t_chosen, .ref h_t_tape, .int t_taped, .int t_place, .int t_isWrong, .int t_toldGenus, .int t_toldMarks, .ref h_t_toldPowers, .ref h_t_powerPlaces, .int t_isTree, .int t_toldLeaves, .int t_leavesPlace, .int t_toldSplits, .ref h_t_toldTree, .ref h_t_splitPlaces, .ref h_t_layers, .int t_isWhy, .ref h_t_paper, .int t_papered, .ref h_t_held, .ref h_t_numbers, .ref h_t_sizes, .ref h_t_heldLeaves, .ref h_t_items, .ref h_t_kept, .int t_isKept])), (h_t_tree, .inl (cI, 3, .inl w0)), (h_t_before, .inl (cI, 16, .inl w1)), (h_t_powers, .inl (cI, 8, .inl a_t_powers)), (h_t_behind, .inl (cI, 144, .inl w2)), (h_t_ahead, .inl (cI, 144, .inl w3))] t.heap) A) ([.ref h_t, .int p0] : List Value).toArray s 0 0 A) (F0 m 70 ls []) := by
  have hta : ∀ w ∈ wA, w.before ([.ref h_t, .int p0] : List Value).toArray s = true := hta_of hts
  have hinX9 : ∀ w ∈ wsX90, w ∈ wsX9_join := hin_of in_X9
  intro vK42_70_0 H locs ls hP hD hS hl h
  unfold K_X9_join_42_70 at h
  refine lv_aload_n hx hb dX9_join_70 rfl (lv_at hl 0 rfl) ?_
  obtain ⟨x6, hx6, h⟩ := bd_e h
  try dsimp only at h
  refine k_VvM (n := 0) (As := []) (rest := []) hx hb hml hown hts (c_X9_ends l G cI cJ cD cH H.size h_t h_t_behind h_t_powers h_t_tree h_t_before h_t_ahead h_t_rows h_t_met h_t_metSizes h_t_chosen h_t_tape h_t_toldPowers h_t_powerPlaces h_t_toldTree h_t_splitPlaces h_t_layers h_t_paper h_t_held h_t_numbers h_t_sizes h_t_heldLeaves h_t_items h_t_kept t_genus t_marks t_leaves (t_splits - (1 : Int32)) t_done t_undone t_metMany t_treesSeen t_taped t_place t_isWrong t_toldGenus t_toldMarks t_isTree t_toldLeaves t_leavesPlace t_toldSplits t_isWhy t_papered t_isKept a_t_behind a_t_powers vK42_70_0 x5 a_t_ahead (x6.1) (x6.2.1) (x6.2.2.1) (x6.2.2.2) hx6) gX9_join_X9_ends rfl rfl rfl (by decide +kernel) ⟨by first | exact Nat.le_of_ble_eq_true rfl | (simp only [headSpec]; omega), by first | exact Nat.le_of_ble_eq_true rfl | (simp only [headSpec]; omega)⟩ hK hP hD hS hA [0, 4, 3, 1, 2, 5] (by decide) rfl rfl (ci := 8) rfl rfl rfl rfl rfl hl.1 (Nat.le_of_ble_eq_true rfl) dX9_join_71 ⟨Nat.zero_le _, Nat.zero_le _⟩ [(h_t, .inr (8, [.int t_genus, .int t_marks, .ref h_t_powers, .int t_leaves, .int (t_splits - (1 : Int32)), .ref h_t_tree, .ref h_t_ahead, .ref h_t_behind, .ref h_t_before, .int (x6.2.2.2), .int (x6.2.2.1), .ref h_t_rows, .ref h_t_met, .ref h_t_metSizes, .int t_metMany, .int t_treesSeen, .ref h_t_chosen, .ref h_t_tape, .int t_taped, .int t_place, .int t_isWrong, .int t_toldGenus, .int t_toldMarks, .ref h_t_toldPowers, .ref h_t_powerPlaces, .int t_isTree, .int t_toldLeaves, .int t_leavesPlace, .int t_toldSplits, .ref h_t_toldTree, .ref h_t_splitPlaces, .ref h_t_layers, .int t_isWhy, .ref h_t_paper, .int t_papered, .ref h_t_held, .ref h_t_numbers, .ref h_t_sizes, .ref h_t_heldLeaves, .ref h_t_items, .ref h_t_kept, .int t_isKept])), (h_t_tree, .inl (cI, 3, .inl vK42_70_0)), (h_t_before, .inl (cI, 16, .inl x5)), (h_t_powers, .inl (cI, 8, .inl a_t_powers)), (h_t_behind, .inl (cI, 144, .inl (x6.1))), (h_t_ahead, .inl (cI, 144, .inl (x6.2.1)))] [1, 4, 5, 3, 2, 6] 6 (by decide +kernel) rfl rfl rfl (fun hp6 H locs hP hD hS => ?_)
  refine lv_aload_n hx hb dX9_join_74 rfl (lv_at hl 0 rfl) ?_
  refine va_get (D := G) (ci := 8) (v := .int (t_splits - (1 : Int32))) (C := RX9) (T := TX9) (N := 42) hx hb hts hinX9 hown hK hP 0 rfl rfl 4 (by decide) (hta _ mw_642) (fun _ h9 => h9) rfl dX9_join_75 ?_
  have h9 := Option.some.inj h
  have e9 : (t_splits - (1 : Int32)) = r0 := congrArg (fun z9 => z9.1) h9
  rw [← e9]
  have e9 : vK42_70_0 = w0 := congrArg (fun z9 => z9.2.1) h9
  rw [← e9]
  have e9 : x5 = w1 := congrArg (fun z9 => z9.2.2.1) h9
  rw [← e9]
  have e9 : (x6.1) = w2 := congrArg (fun z9 => z9.2.2.2.1) h9
  rw [← e9]
  have e9 : (x6.2.1) = w3 := congrArg (fun z9 => z9.2.2.2.2.1) h9
  rw [← e9]
  have e9 : (x6.2.2.1) = w4 := congrArg (fun z9 => z9.2.2.2.2.2.1) h9
  rw [← e9]
  have e9 : (t_splits - (1 : Int32)) = w5 := congrArg (fun z9 => z9.2.2.2.2.2.2.1) h9
  rw [← e9]
  have e9 : (x6.2.2.2) = w6 := congrArg (fun z9 => z9.2.2.2.2.2.2.2) h9
  rw [← e9]
  exact k_iret hx hb hr hlocks hP hS rfl dX9_join_78
set_option maxHeartbeats 4000000 in
set_option maxRecDepth 100000 in
theorem c_X9_join (l : Launch) (G : va_G) (cI cJ cD cH : ClassId) (sz : Nat) (h_t : Nat) (h_t_tree : Nat) (h_t_before : Nat) (h_t_powers : Nat) (h_t_behind : Nat) (h_t_ahead : Nat) (h_t_rows : Nat) (h_t_met : Nat) (h_t_metSizes : Nat) (h_t_chosen : Nat) (h_t_tape : Nat) (h_t_toldPowers : Nat) (h_t_powerPlaces : Nat) (h_t_toldTree : Nat) (h_t_splitPlaces : Nat) (h_t_layers : Nat) (h_t_paper : Nat) (h_t_held : Nat) (h_t_numbers : Nat) (h_t_sizes : Nat) (h_t_heldLeaves : Nat) (h_t_items : Nat) (h_t_kept : Nat) (t_genus : Int32) (t_marks : Int32) (t_leaves : Int32) (t_splits : Int32) (t_done : Int32) (t_undone : Int32) (t_metMany : Int32) (t_treesSeen : Int32) (t_taped : Int32) (t_place : Int32) (t_isWrong : Int32) (t_toldGenus : Int32) (t_toldMarks : Int32) (t_isTree : Int32) (t_toldLeaves : Int32) (t_leavesPlace : Int32) (t_toldSplits : Int32) (t_isWhy : Int32) (t_papered : Int32) (t_isKept : Int32) (a_t_tree : Nat → Int32) (a_t_before : Nat → Int32) (a_t_powers : Nat → Int32) (a_t_behind : Nat → Int32) (a_t_ahead : Nat → Int32) (p0 : Int32) (r0 : Int32) (w0 : Nat → Int32) (w1 : Nat → Int32) (w2 : Nat → Int32) (w3 : Nat → Int32) (w4 : Int32) (w5 : Int32) (w6 : Int32) (hF : F_X9_join t_genus t_marks t_leaves t_splits t_done t_undone a_t_tree a_t_before a_t_powers a_t_behind a_t_ahead p0 = some (r0, w0, w1, w2, w3, w4, w5, w6)) : Met l yX9_join wsX9_join ({ frames := 2, cells := 0, slots := 0, locals := 46 }) (k_pre G (k_T cI cJ cD cH) [(h_t, .inr (8, [.int t_genus, .int t_marks, .ref h_t_powers, .int t_leaves, .int t_splits, .ref h_t_tree, .ref h_t_ahead, .ref h_t_behind, .ref h_t_before, .int t_done, .int t_undone, .ref h_t_rows, .ref h_t_met, .ref h_t_metSizes, .int t_metMany, .int t_treesSeen, .ref h_t_chosen, .ref h_t_tape, .int t_taped, .int t_place, .int t_isWrong, .int t_toldGenus, .int t_toldMarks, .ref h_t_toldPowers, .ref h_t_powerPlaces, .int t_isTree, .int t_toldLeaves, .int t_leavesPlace, .int t_toldSplits, .ref h_t_toldTree, .ref h_t_splitPlaces, .ref h_t_layers, .int t_isWhy, .ref h_t_paper, .int t_papered, .ref h_t_held, .ref h_t_numbers, .ref h_t_sizes, .ref h_t_heldLeaves, .ref h_t_items, .ref h_t_kept, .int t_isKept])), (h_t_tree, .inl (cI, 3, .inl a_t_tree)), (h_t_before, .inl (cI, 16, .inl a_t_before)), (h_t_powers, .inl (cI, 8, .inl a_t_powers)), (h_t_behind, .inl (cI, 144, .inl a_t_behind)), (h_t_ahead, .inl (cI, 144, .inl a_t_ahead))] sz [.ref h_t, .int p0]) (va_Qi (fun r (_ : Unit) => r = r0 ∧ True) (fun _ t => va_P G vwCl [(h_t, .inr (8, [.int t_genus, .int t_marks, .ref h_t_powers, .int t_leaves, .int w5, .ref h_t_tree, .ref h_t_ahead, .ref h_t_behind, .ref h_t_before, .int w6, .int w4, .ref h_t_rows, .ref h_t_met, .ref h_t_metSizes, .int t_metMany, .int t_treesSeen, .ref h_t_chosen, .ref h_t_tape, .int t_taped, .int t_place, .int t_isWrong, .int t_toldGenus, .int t_toldMarks, .ref h_t_toldPowers, .ref h_t_powerPlaces, .int t_isTree, .int t_toldLeaves, .int t_leavesPlace, .int t_toldSplits, .ref h_t_toldTree, .ref h_t_splitPlaces, .ref h_t_layers, .int t_isWhy, .ref h_t_paper, .int t_papered, .ref h_t_held, .ref h_t_numbers, .ref h_t_sizes, .ref h_t_heldLeaves, .ref h_t_items, .ref h_t_kept, .int t_isKept])), (h_t_tree, .inl (cI, 3, .inl w0)), (h_t_before, .inl (cI, 16, .inl w1)), (h_t_powers, .inl (cI, 8, .inl a_t_powers)), (h_t_behind, .inl (cI, 144, .inl w2)), (h_t_ahead, .inl (cI, 144, .inl w3))] t.heap) (va_A [(h_t, .inr (8, [.int t_genus, .int t_marks, .ref h_t_powers, .int t_leaves, .int t_splits, .ref h_t_tree, .ref h_t_ahead, .ref h_t_behind, .ref h_t_before, .int t_done, .int t_undone, .ref h_t_rows, .ref h_t_met, .ref h_t_metSizes, .int t_metMany, .int t_treesSeen, .ref h_t_chosen, .ref h_t_tape, .int t_taped, .int t_place, .int t_isWrong, .int t_toldGenus, .int t_toldMarks, .ref h_t_toldPowers, .ref h_t_powerPlaces, .int t_isTree, .int t_toldLeaves, .int t_leavesPlace, .int t_toldSplits, .ref h_t_toldTree, .ref h_t_splitPlaces, .ref h_t_layers, .int t_isWhy, .ref h_t_paper, .int t_papered, .ref h_t_held, .ref h_t_numbers, .ref h_t_sizes, .ref h_t_heldLeaves, .ref h_t_items, .ref h_t_kept, .int t_isKept])), (h_t_tree, .inl (cI, 3, .inl a_t_tree)), (h_t_before, .inl (cI, 16, .inl a_t_before)), (h_t_powers, .inl (cI, 8, .inl a_t_powers)), (h_t_behind, .inl (cI, 144, .inl a_t_behind)), (h_t_ahead, .inl (cI, 144, .inl a_t_ahead))] sz)) 0 0 (va_A [(h_t, .inr (8, [.int t_genus, .int t_marks, .ref h_t_powers, .int t_leaves, .int t_splits, .ref h_t_tree, .ref h_t_ahead, .ref h_t_behind, .ref h_t_before, .int t_done, .int t_undone, .ref h_t_rows, .ref h_t_met, .ref h_t_metSizes, .int t_metMany, .int t_treesSeen, .ref h_t_chosen, .ref h_t_tape, .int t_taped, .int t_place, .int t_isWrong, .int t_toldGenus, .int t_toldMarks, .ref h_t_toldPowers, .ref h_t_powerPlaces, .int t_isTree, .int t_toldLeaves, .int t_leavesPlace, .int t_toldSplits, .ref h_t_toldTree, .ref h_t_splitPlaces, .ref h_t_layers, .int t_isWhy, .ref h_t_paper, .int t_papered, .ref h_t_held, .ref h_t_numbers, .ref h_t_sizes, .ref h_t_heldLeaves, .ref h_t_items, .ref h_t_kept, .int t_isKept])), (h_t_tree, .inl (cI, 3, .inl a_t_tree)), (h_t_before, .inl (cI, 16, .inl a_t_before)), (h_t_powers, .inl (cI, 8, .inl a_t_powers)), (h_t_behind, .inl (cI, 144, .inl a_t_behind)), (h_t_ahead, .inl (cI, 144, .inl a_t_ahead))] sz) := by
  refine Met.ofW (cc := cX9_join) (maxL := 4) (ret := (some .int)) (by decide) rfl ?_
  intro p e s m args below meth c s₁ B hml hv
  obtain ⟨rfl, hsz, hP, hK, hD0⟩ := hv
  have hx := B.exec
  have hb := B.bytes
  have hr := B.returns
  have hts := atoms_spec (ws := wsX9_join) B.pre
  have hta : ∀ w ∈ wA, w.before ([.ref h_t, .int p0] : List Value).toArray s = true := hta_of hts
  have hown : s.vm.findClass RX9 = some m.cls := findClass_of_methodNamed B.named
  have hlocks := B.notSynchronized
  subst hsz
  have hD := hD0.self (sz := s.heap.size)
  generalize hAe : va_A [(h_t, .inr (8, [.int t_genus, .int t_marks, .ref h_t_powers, .int t_leaves, .int t_splits, .ref h_t_tree, .ref h_t_ahead, .ref h_t_behind, .ref h_t_before, .int t_done, .int t_undone, .ref h_t_rows, .ref h_t_met, .ref h_t_metSizes, .int t_metMany, .int t_treesSeen, .ref h_t_chosen, .ref h_t_tape, .int t_taped, .int t_place, .int t_isWrong, .int t_toldGenus, .int t_toldMarks, .ref h_t_toldPowers, .ref h_t_powerPlaces, .int t_isTree, .int t_toldLeaves, .int t_leavesPlace, .int t_toldSplits, .ref h_t_toldTree, .ref h_t_splitPlaces, .ref h_t_layers, .int t_isWhy, .ref h_t_paper, .int t_papered, .ref h_t_held, .ref h_t_numbers, .ref h_t_sizes, .ref h_t_heldLeaves, .ref h_t_items, .ref h_t_kept, .int t_isKept])), (h_t_tree, .inl (cI, 3, .inl a_t_tree)), (h_t_before, .inl (cI, 16, .inl a_t_before)), (h_t_powers, .inl (cI, 8, .inl a_t_powers)), (h_t_behind, .inl (cI, 144, .inl a_t_behind)), (h_t_ahead, .inl (cI, 144, .inl a_t_ahead))] s.heap.size = A at hD ⊢
  have hA : ∀ q : Nat, s.heap.size ≤ q → A q := fun q h => by rw [← hAe]; exact Or.inr h
  have hS : va_S A s.heap s.heap [] := va_S.rf
  have hl := lv_entry ([.ref h_t, .int p0]) (n := 4) (Nat.le_of_ble_eq_true rfl)
  rw [lg_entry_eq]
  generalize (lg_sl ([.ref h_t, .int p0]) ++ List.replicate (4 - (lg_sl ([.ref h_t, .int p0])).length) Slot.unset).toArray = ls at hl ⊢
  have hl : lv_has ls 4 [(0, .ref h_t), (1, .int p0)] := hl
  have hinX9 : ∀ w ∈ wsX90, w ∈ wsX9_join := hin_of in_X9
  have h := hF
  unfold F_X9_join at h
  refine lv_iload_n hx hb dX9_join_0 rfl (lv_at hl 1 rfl) ?_
  refine lv_aload_n hx hb dX9_join_1 rfl (lv_at hl 0 rfl) ?_
  refine va_get (D := G) (ci := 8) (v := .int t_leaves) (C := RX9) (T := TX9) (N := 42) hx hb hts hinX9 hown hK hP 0 rfl rfl 3 (by decide) (hta _ mw_609) (fun _ h9 => h9) rfl dX9_join_2 ?_
  obtain ⟨x1, hx1, h⟩ := bd_e h
  try dsimp only at h
  refine k_SiU (n := 2) (As := [.int p0, .int t_leaves]) (rest := []) hx hb hml hown hts (c_X9_isSplit l G cI cJ cD cH s.heap.size p0 t_leaves x1 hx1) gX9_join_X9_isSplit rfl rfl rfl (by decide +kernel) ⟨by first | exact Nat.le_of_ble_eq_true rfl | (simp only [headSpec]; omega), by first | exact Nat.le_of_ble_eq_true rfl | (simp only [headSpec]; omega)⟩ hK hP hD hS hA [] (by decide) rfl rfl rfl hl.1 (Nat.le_of_ble_eq_true rfl) dX9_join_5 ⟨Nat.zero_le _, Nat.zero_le _⟩ (fun hp1 H locs hP hS => ?_)
  refine lv_if_ne (tgt := 13) hx hb dX9_join_8 (by decide) (fun c2 => ?_) (fun c2 => ?_)
  rotate_left
  · have h := it_p h c2
    refine lv_iconst (v := (-1 : Int32)) hx hb dX9_join_11 (by decide) ?_
    have h9 := Option.some.inj h
    have e9 : (-1 : Int32) = r0 := congrArg (fun z9 => z9.1) h9
    rw [← e9]
    have e9 : a_t_tree = w0 := congrArg (fun z9 => z9.2.1) h9
    rw [← e9]
    have e9 : a_t_before = w1 := congrArg (fun z9 => z9.2.2.1) h9
    rw [← e9]
    have e9 : a_t_behind = w2 := congrArg (fun z9 => z9.2.2.2.1) h9
    rw [← e9]
    have e9 : a_t_ahead = w3 := congrArg (fun z9 => z9.2.2.2.2.1) h9
    rw [← e9]
    have e9 : t_undone = w4 := congrArg (fun z9 => z9.2.2.2.2.2.1) h9
    rw [← e9]
    have e9 : t_splits = w5 := congrArg (fun z9 => z9.2.2.2.2.2.2.1) h9
    rw [← e9]
    have e9 : t_done = w6 := congrArg (fun z9 => z9.2.2.2.2.2.2.2) h9
    rw [← e9]
    exact k_iret hx hb hr hlocks hP hS rfl dX9_join_12
  have h := it_n h c2
  refine lv_aload_n hx hb dX9_join_13 rfl (lv_at hl 0 rfl) ?_
  refine lv_iload_n hx hb dX9_join_14 rfl (lv_at hl 1 rfl) ?_
  obtain ⟨x3, hx3, h⟩ := bd_e h
  try dsimp only at h
  refine k_ViU (n := 1) (As := [.int p0]) (rest := []) hx hb hml hown hts (c_X9_placeOf l G cI cJ cD cH H.size h_t h_t_tree h_t_powers h_t_ahead h_t_behind h_t_before h_t_rows h_t_met h_t_metSizes h_t_chosen h_t_tape h_t_toldPowers h_t_powerPlaces h_t_toldTree h_t_splitPlaces h_t_layers h_t_paper h_t_held h_t_numbers h_t_sizes h_t_heldLeaves h_t_items h_t_kept t_genus t_marks t_leaves t_splits t_done t_undone t_metMany t_treesSeen t_taped t_place t_isWrong t_toldGenus t_toldMarks t_isTree t_toldLeaves t_leavesPlace t_toldSplits t_isWhy t_papered t_isKept a_t_tree p0 x3 hx3) gX9_join_X9_placeOf rfl rfl rfl (by decide +kernel) ⟨by first | exact Nat.le_of_ble_eq_true rfl | (simp only [headSpec]; omega), by first | exact Nat.le_of_ble_eq_true rfl | (simp only [headSpec]; omega)⟩ hK hP hD hS hA [0, 1] (by decide) rfl (ci := 8) rfl rfl rfl rfl rfl hl.1 (Nat.le_of_ble_eq_true rfl) dX9_join_15 ⟨Nat.zero_le _, Nat.zero_le _⟩ (fun hp3 H locs hP hS => ?_)
  refine lv_istore_n (lv' := [(2, .int x3), (0, .ref h_t), (1, .int p0)]) hx hb dX9_join_18 rfl hl (by decide) rfl (fun ls hl => ?_)
  refine lv_iload_n hx hb dX9_join_19 rfl (lv_at hl 0 rfl) ?_
  refine lv_if_ge (tgt := 26) hx hb dX9_join_20 (by decide) (fun c4 => ?_) (fun c4 => ?_)
  rotate_left
  · have h := it_n h c4
    refine lv_bipush (v := (-5 : Int32)) hx hb dX9_join_23 (by decide) ?_
    have h9 := Option.some.inj h
    have e9 : (-5 : Int32) = r0 := congrArg (fun z9 => z9.1) h9
    rw [← e9]
    have e9 : a_t_tree = w0 := congrArg (fun z9 => z9.2.1) h9
    rw [← e9]
    have e9 : a_t_before = w1 := congrArg (fun z9 => z9.2.2.1) h9
    rw [← e9]
    have e9 : a_t_behind = w2 := congrArg (fun z9 => z9.2.2.2.1) h9
    rw [← e9]
    have e9 : a_t_ahead = w3 := congrArg (fun z9 => z9.2.2.2.2.1) h9
    rw [← e9]
    have e9 : t_undone = w4 := congrArg (fun z9 => z9.2.2.2.2.2.1) h9
    rw [← e9]
    have e9 : t_splits = w5 := congrArg (fun z9 => z9.2.2.2.2.2.2.1) h9
    rw [← e9]
    have e9 : t_done = w6 := congrArg (fun z9 => z9.2.2.2.2.2.2.2) h9
    rw [← e9]
    exact k_iret hx hb hr hlocks hP hS rfl dX9_join_25
  have h := it_p h c4
  refine lv_aload_n hx hb dX9_join_26 rfl (lv_at hl 1 rfl) ?_
  obtain ⟨x5, hx5, h⟩ := bd_e h
  try dsimp only at h
  refine k_VvM (n := 0) (As := []) (rest := []) hx hb hml hown hts (c_X9_begins l G cI cJ cD cH H.size h_t h_t_before h_t_powers h_t_tree h_t_ahead h_t_behind h_t_rows h_t_met h_t_metSizes h_t_chosen h_t_tape h_t_toldPowers h_t_powerPlaces h_t_toldTree h_t_splitPlaces h_t_layers h_t_paper h_t_held h_t_numbers h_t_sizes h_t_heldLeaves h_t_items h_t_kept t_genus t_marks t_leaves t_splits t_done t_undone t_metMany t_treesSeen t_taped t_place t_isWrong t_toldGenus t_toldMarks t_isTree t_toldLeaves t_leavesPlace t_toldSplits t_isWhy t_papered t_isKept a_t_before a_t_powers a_t_tree x5 hx5) gX9_join_X9_begins rfl rfl rfl (by decide +kernel) ⟨by first | exact Nat.le_of_ble_eq_true rfl | (simp only [headSpec]; omega), by first | exact Nat.le_of_ble_eq_true rfl | (simp only [headSpec]; omega)⟩ hK hP hD hS hA [0, 2, 3, 1] (by decide) rfl rfl (ci := 8) rfl rfl rfl rfl rfl hl.1 (Nat.le_of_ble_eq_true rfl) dX9_join_27 ⟨Nat.zero_le _, Nat.zero_le _⟩ [(h_t, .inr (8, [.int t_genus, .int t_marks, .ref h_t_powers, .int t_leaves, .int t_splits, .ref h_t_tree, .ref h_t_ahead, .ref h_t_behind, .ref h_t_before, .int t_done, .int t_undone, .ref h_t_rows, .ref h_t_met, .ref h_t_metSizes, .int t_metMany, .int t_treesSeen, .ref h_t_chosen, .ref h_t_tape, .int t_taped, .int t_place, .int t_isWrong, .int t_toldGenus, .int t_toldMarks, .ref h_t_toldPowers, .ref h_t_powerPlaces, .int t_isTree, .int t_toldLeaves, .int t_leavesPlace, .int t_toldSplits, .ref h_t_toldTree, .ref h_t_splitPlaces, .ref h_t_layers, .int t_isWhy, .ref h_t_paper, .int t_papered, .ref h_t_held, .ref h_t_numbers, .ref h_t_sizes, .ref h_t_heldLeaves, .ref h_t_items, .ref h_t_kept, .int t_isKept])), (h_t_tree, .inl (cI, 3, .inl a_t_tree)), (h_t_before, .inl (cI, 16, .inl x5)), (h_t_powers, .inl (cI, 8, .inl a_t_powers)), (h_t_behind, .inl (cI, 144, .inl a_t_behind)), (h_t_ahead, .inl (cI, 144, .inl a_t_ahead))] [1, 4, 2, 3, 0, 0] 4 (by decide +kernel) rfl rfl rfl (fun hp5 H locs hP hD hS => ?_)
  refine lv_aload_n hx hb dX9_join_30 rfl (lv_at hl 1 rfl) ?_
  refine lv_dup hx hb dX9_join_31 rfl ?_
  refine va_get (D := G) (ci := 8) (v := .int t_splits) (C := RX9) (T := TX9) (N := 42) hx hb hts hinX9 hown hK hP 0 rfl rfl 4 (by decide) (hta _ mw_642) (fun _ h9 => h9) rfl dX9_join_32 ?_
  refine lv_iconst (v := (1 : Int32)) hx hb dX9_join_35 (by decide) ?_
  refine lv_isub hx hb dX9_join_36 ?_
  refine va_put (D := G) (ci := 8) (v := .int (t_splits - (1 : Int32))) (ty := .int) (C := RX9) (T := TX9) (N := 42) hx hb hts hinX9 tyX9 tyX9_ok nmX9 hown hK hP hD hS 0 rfl rfl 4 (by decide) (hta _ mw_642) (fun _ h9 => h9) rfl (by decide +kernel) rfl rfl (Nat.le_of_ble_eq_true rfl) dX9_join_37 (fun H locs hP hD hS => ?_)
  have hP : va_P G vwCl [(h_t, .inr (8, [.int t_genus, .int t_marks, .ref h_t_powers, .int t_leaves, .int (t_splits - (1 : Int32)), .ref h_t_tree, .ref h_t_ahead, .ref h_t_behind, .ref h_t_before, .int t_done, .int t_undone, .ref h_t_rows, .ref h_t_met, .ref h_t_metSizes, .int t_metMany, .int t_treesSeen, .ref h_t_chosen, .ref h_t_tape, .int t_taped, .int t_place, .int t_isWrong, .int t_toldGenus, .int t_toldMarks, .ref h_t_toldPowers, .ref h_t_powerPlaces, .int t_isTree, .int t_toldLeaves, .int t_leavesPlace, .int t_toldSplits, .ref h_t_toldTree, .ref h_t_splitPlaces, .ref h_t_layers, .int t_isWhy, .ref h_t_paper, .int t_papered, .ref h_t_held, .ref h_t_numbers, .ref h_t_sizes, .ref h_t_heldLeaves, .ref h_t_items, .ref h_t_kept, .int t_isKept])), (h_t_tree, .inl (cI, 3, .inl a_t_tree)), (h_t_before, .inl (cI, 16, .inl x5)), (h_t_powers, .inl (cI, 8, .inl a_t_powers)), (h_t_behind, .inl (cI, 144, .inl a_t_behind)), (h_t_ahead, .inl (cI, 144, .inl a_t_ahead))] H := hP
  have hD : va_D A [(h_t, .inr (8, [.int t_genus, .int t_marks, .ref h_t_powers, .int t_leaves, .int (t_splits - (1 : Int32)), .ref h_t_tree, .ref h_t_ahead, .ref h_t_behind, .ref h_t_before, .int t_done, .int t_undone, .ref h_t_rows, .ref h_t_met, .ref h_t_metSizes, .int t_metMany, .int t_treesSeen, .ref h_t_chosen, .ref h_t_tape, .int t_taped, .int t_place, .int t_isWrong, .int t_toldGenus, .int t_toldMarks, .ref h_t_toldPowers, .ref h_t_powerPlaces, .int t_isTree, .int t_toldLeaves, .int t_leavesPlace, .int t_toldSplits, .ref h_t_toldTree, .ref h_t_splitPlaces, .ref h_t_layers, .int t_isWhy, .ref h_t_paper, .int t_papered, .ref h_t_held, .ref h_t_numbers, .ref h_t_sizes, .ref h_t_heldLeaves, .ref h_t_items, .ref h_t_kept, .int t_isKept])), (h_t_tree, .inl (cI, 3, .inl a_t_tree)), (h_t_before, .inl (cI, 16, .inl x5)), (h_t_powers, .inl (cI, 8, .inl a_t_powers)), (h_t_behind, .inl (cI, 144, .inl a_t_behind)), (h_t_ahead, .inl (cI, 144, .inl a_t_ahead))] := hD
  refine lv_iload_n hx hb dX9_join_40 rfl (lv_at hl 0 rfl) ?_
  refine lv_istore_n (lv' := [(3, .int x3), (2, .int x3), (0, .ref h_t), (1, .int p0)]) hx hb dX9_join_41 rfl hl (by decide) rfl (fun ls hl => ?_)
  have hL42 : ∀ (n42 : Nat) (vL42_0 : Nat → Int32) (vL42_1 : Int32) (H : Heap) (locs : List Loc) (ls : Array Slot), va_P G vwCl [(h_t, .inr (8, [.int t_genus, .int t_marks, .ref h_t_powers, .int t_leaves, .int (t_splits - (1 : Int32)), .ref h_t_tree, .ref h_t_ahead, .ref h_t_behind, .ref h_t_before, .int t_done, .int t_undone, .ref h_t_rows, .ref h_t_met, .ref h_t_metSizes, .int t_metMany, .int t_treesSeen, .ref h_t_chosen, .ref h_t_tape, .int t_taped, .int t_place, .int t_isWrong, .int t_toldGenus, .int t_toldMarks, .ref h_t_toldPowers, .ref h_t_powerPlaces, .int t_isTree, .int t_toldLeaves, .int t_leavesPlace, .int t_toldSplits, .ref h_t_toldTree, .ref h_t_splitPlaces, .ref h_t_layers, .int t_isWhy, .ref h_t_paper, .int t_papered, .ref h_t_held, .ref h_t_numbers, .ref h_t_sizes, .ref h_t_heldLeaves, .ref h_t_items, .ref h_t_kept, .int t_isKept])), (h_t_tree, .inl (cI, 3, .inl vL42_0)), (h_t_before, .inl (cI, 16, .inl x5)), (h_t_powers, .inl (cI, 8, .inl a_t_powers)), (h_t_behind, .inl (cI, 144, .inl a_t_behind)), (h_t_ahead, .inl (cI, 144, .inl a_t_ahead))] H → va_D A [(h_t, .inr (8, [.int t_genus, .int t_marks, .ref h_t_powers, .int t_leaves, .int (t_splits - (1 : Int32)), .ref h_t_tree, .ref h_t_ahead, .ref h_t_behind, .ref h_t_before, .int t_done, .int t_undone, .ref h_t_rows, .ref h_t_met, .ref h_t_metSizes, .int t_metMany, .int t_treesSeen, .ref h_t_chosen, .ref h_t_tape, .int t_taped, .int t_place, .int t_isWrong, .int t_toldGenus, .int t_toldMarks, .ref h_t_toldPowers, .ref h_t_powerPlaces, .int t_isTree, .int t_toldLeaves, .int t_leavesPlace, .int t_toldSplits, .ref h_t_toldTree, .ref h_t_splitPlaces, .ref h_t_layers, .int t_isWhy, .ref h_t_paper, .int t_papered, .ref h_t_held, .ref h_t_numbers, .ref h_t_sizes, .ref h_t_heldLeaves, .ref h_t_items, .ref h_t_kept, .int t_isKept])), (h_t_tree, .inl (cI, 3, .inl vL42_0)), (h_t_before, .inl (cI, 16, .inl x5)), (h_t_powers, .inl (cI, 8, .inl a_t_powers)), (h_t_behind, .inl (cI, 144, .inl a_t_behind)), (h_t_ahead, .inl (cI, 144, .inl a_t_ahead))] → va_S A s.heap H locs → lv_has ls 4 [(0, .ref h_t), (3, .int vL42_1)] → wq2 (B_X9_join_42 t_splits (K_X9_join_42_70 t_genus t_marks t_leaves t_splits t_done t_undone a_t_powers a_t_behind a_t_ahead x5)) n42 vL42_0 vL42_1 = some (r0, w0, w1, w2, w3, w4, w5, w6) → W p l e (headSpec wsX9_join ({ frames := 2, cells := 0, slots := 0, locals := 46 })).room s m ([.ref h_t, .int p0] : List Value).toArray below meth c H locs 0 0 (MQ below (va_Qi (fun r (_ : Unit) => r = r0 ∧ True) (fun _ t => va_P G vwCl [(h_t, .inr (8, [.int t_genus, .int t_marks, .ref h_t_powers, .int t_leaves, .int w5, .ref h_t_tree, .ref h_t_ahead, .ref h_t_behind, .ref h_t_before, .int w6, .int w4, .ref h_t_rows, .ref h_t_met, .ref h_t_metSizes, .int t_metMany, .int t_treesSeen, .ref h_t_chosen, .ref h_t_tape, .int t_taped, .int t_place, .int t_isWrong, .int t_toldGenus, .int t_toldMarks, .ref h_t_toldPowers, .ref h_t_powerPlaces, .int t_isTree, .int t_toldLeaves, .int t_leavesPlace, .int t_toldSplits, .ref h_t_toldTree, .ref h_t_splitPlaces, .ref h_t_layers, .int t_isWhy, .ref h_t_paper, .int t_papered, .ref h_t_held, .ref h_t_numbers, .ref h_t_sizes, .ref h_t_heldLeaves, .ref h_t_items, .ref h_t_kept, .int t_isKept])), (h_t_tree, .inl (cI, 3, .inl w0)), (h_t_before, .inl (cI, 16, .inl w1)), (h_t_powers, .inl (cI, 8, .inl a_t_powers)), (h_t_behind, .inl (cI, 144, .inl w2)), (h_t_ahead, .inl (cI, 144, .inl w3))] t.heap) A) ([.ref h_t, .int p0] : List Value).toArray s 0 0 A) (F0 m 42 ls []) := by
    intro n42
    induction n42 with
    | zero => intro vL42_0 vL42_1 H locs ls hP hD hS hl h; exact wq2_0 h
    | succ n42 ih42 =>
      intro vL42_0 vL42_1 H locs ls hP hD hS hl h
      have h := wq2_s h
      unfold B_X9_join_42 at h
      refine lv_iload_n hx hb dX9_join_42 rfl (lv_at hl 1 rfl) ?_
      refine lv_aload_n hx hb dX9_join_43 rfl (lv_at hl 0 rfl) ?_
      refine va_get (D := G) (ci := 8) (v := .int (t_splits - (1 : Int32))) (C := RX9) (T := TX9) (N := 42) hx hb hts hinX9 hown hK hP 0 rfl rfl 4 (by decide) (hta _ mw_642) (fun _ h9 => h9) rfl dX9_join_44 ?_
      refine lv_icmp_ge (tgt := 70) hx hb dX9_join_47 (by decide) (fun c7 => ?_) (fun c7 => ?_)
      · have h := it_p h c7
        exact tK_X9_join_42_70 hx hb hr hml hts hown hlocks hK hA vL42_0 _ _ _ hP hD hS (lv_sub hl [0] rfl) h
      have h := it_n h c7
      refine lv_aload_n hx hb dX9_join_50 rfl (lv_at hl 0 rfl) ?_
      refine va_get (D := G) (ci := 8) (v := .ref h_t_tree) (C := RX9) (T := TX9) (N := 42) hx hb hts hinX9 hown hK hP 0 rfl rfl 5 (by decide) (hta _ mw_610) (fun _ h9 => h9) rfl dX9_join_51 ?_
      refine lv_iload_n hx hb dX9_join_54 rfl (lv_at hl 1 rfl) ?_
      refine lv_aload_n hx hb dX9_join_55 rfl (lv_at hl 0 rfl) ?_
      refine va_get (D := G) (ci := 8) (v := .ref h_t_tree) (C := RX9) (T := TX9) (N := 42) hx hb hts hinX9 hown hK hP 0 rfl rfl 5 (by decide) (hta _ mw_610) (fun _ h9 => h9) rfl dX9_join_56 ?_
      refine lv_iload_n hx hb dX9_join_59 rfl (lv_at hl 1 rfl) ?_
      refine lv_iconst (v := (1 : Int32)) hx hb dX9_join_60 (by decide) ?_
      refine lv_iadd hx hb dX9_join_61 ?_
      obtain ⟨hn8, h⟩ := ck_e h
      refine va_iald hx hb hK hP 1 0 rfl rfl hn8 dX9_join_62 ?_
      obtain ⟨hn9, h⟩ := ck_e h
      refine va_iast hx hb hK hP hD hS 1 0 rfl rfl hn9 dX9_join_63 (fun H locs hP hD hS => ?_)
      have hP : va_P G vwCl [(h_t, .inr (8, [.int t_genus, .int t_marks, .ref h_t_powers, .int t_leaves, .int (t_splits - (1 : Int32)), .ref h_t_tree, .ref h_t_ahead, .ref h_t_behind, .ref h_t_before, .int t_done, .int t_undone, .ref h_t_rows, .ref h_t_met, .ref h_t_metSizes, .int t_metMany, .int t_treesSeen, .ref h_t_chosen, .ref h_t_tape, .int t_taped, .int t_place, .int t_isWrong, .int t_toldGenus, .int t_toldMarks, .ref h_t_toldPowers, .ref h_t_powerPlaces, .int t_isTree, .int t_toldLeaves, .int t_leavesPlace, .int t_toldSplits, .ref h_t_toldTree, .ref h_t_splitPlaces, .ref h_t_layers, .int t_isWhy, .ref h_t_paper, .int t_papered, .ref h_t_held, .ref h_t_numbers, .ref h_t_sizes, .ref h_t_heldLeaves, .ref h_t_items, .ref h_t_kept, .int t_isKept])), (h_t_tree, .inl (cI, 3, .inl (upd vL42_0 vL42_1.toNatClampNeg (vL42_0 (vL42_1 + (1 : Int32)).toNatClampNeg)))), (h_t_before, .inl (cI, 16, .inl x5)), (h_t_powers, .inl (cI, 8, .inl a_t_powers)), (h_t_behind, .inl (cI, 144, .inl a_t_behind)), (h_t_ahead, .inl (cI, 144, .inl a_t_ahead))] H := hP
      have hD : va_D A [(h_t, .inr (8, [.int t_genus, .int t_marks, .ref h_t_powers, .int t_leaves, .int (t_splits - (1 : Int32)), .ref h_t_tree, .ref h_t_ahead, .ref h_t_behind, .ref h_t_before, .int t_done, .int t_undone, .ref h_t_rows, .ref h_t_met, .ref h_t_metSizes, .int t_metMany, .int t_treesSeen, .ref h_t_chosen, .ref h_t_tape, .int t_taped, .int t_place, .int t_isWrong, .int t_toldGenus, .int t_toldMarks, .ref h_t_toldPowers, .ref h_t_powerPlaces, .int t_isTree, .int t_toldLeaves, .int t_leavesPlace, .int t_toldSplits, .ref h_t_toldTree, .ref h_t_splitPlaces, .ref h_t_layers, .int t_isWhy, .ref h_t_paper, .int t_papered, .ref h_t_held, .ref h_t_numbers, .ref h_t_sizes, .ref h_t_heldLeaves, .ref h_t_items, .ref h_t_kept, .int t_isKept])), (h_t_tree, .inl (cI, 3, .inl (upd vL42_0 vL42_1.toNatClampNeg (vL42_0 (vL42_1 + (1 : Int32)).toNatClampNeg)))), (h_t_before, .inl (cI, 16, .inl x5)), (h_t_powers, .inl (cI, 8, .inl a_t_powers)), (h_t_behind, .inl (cI, 144, .inl a_t_behind)), (h_t_ahead, .inl (cI, 144, .inl a_t_ahead))] := hD
      refine lv_iinc (v := (vL42_1 + (1 : Int32))) (lv' := [(3, .int (vL42_1 + (1 : Int32))), (0, .ref h_t)]) hx hb dX9_join_64 hl (k := 1) rfl (by first | rfl | decide) (by decide) rfl (fun ls hl => ?_)
      refine lv_goto (tgt := 42) hx hb dX9_join_67 (by decide) ?_
      exact ih42 (upd vL42_0 vL42_1.toNatClampNeg (vL42_0 (vL42_1 + (1 : Int32)).toNatClampNeg)) (vL42_1 + (1 : Int32)) _ _ _ hP hD hS (lv_sub hl [1, 0] rfl) h
  exact hL42 FU a_t_tree x3 _ _ _ hP hD hS (lv_sub hl [2, 0] rfl) h

/-! X9_splitAt -/
set_option maxHeartbeats 4000000 in
set_option maxRecDepth 100000 in
theorem c_X9_splitAt (l : Launch) (G : va_G) (cI cJ cD cH : ClassId) (sz : Nat) (h_t : Nat) (h_t_tree : Nat) (h_t_powers : Nat) (h_t_ahead : Nat) (h_t_behind : Nat) (h_t_before : Nat) (h_t_rows : Nat) (h_t_met : Nat) (h_t_metSizes : Nat) (h_t_chosen : Nat) (h_t_tape : Nat) (h_t_toldPowers : Nat) (h_t_powerPlaces : Nat) (h_t_toldTree : Nat) (h_t_splitPlaces : Nat) (h_t_layers : Nat) (h_t_paper : Nat) (h_t_held : Nat) (h_t_numbers : Nat) (h_t_sizes : Nat) (h_t_heldLeaves : Nat) (h_t_items : Nat) (h_t_kept : Nat) (t_genus : Int32) (t_marks : Int32) (t_leaves : Int32) (t_splits : Int32) (t_done : Int32) (t_undone : Int32) (t_metMany : Int32) (t_treesSeen : Int32) (t_taped : Int32) (t_place : Int32) (t_isWrong : Int32) (t_toldGenus : Int32) (t_toldMarks : Int32) (t_isTree : Int32) (t_toldLeaves : Int32) (t_leavesPlace : Int32) (t_toldSplits : Int32) (t_isWhy : Int32) (t_papered : Int32) (t_isKept : Int32) (a_t_tree : Nat → Int32) (p0 : Int32) (r0 : Int32) (hF : F_X9_splitAt t_splits a_t_tree p0 = some r0) : Met l yX9_splitAt wsX9_splitAt ({ frames := 0, cells := 0, slots := 0, locals := 0 }) (k_pre G (k_T cI cJ cD cH) [(h_t, .inr (8, [.int t_genus, .int t_marks, .ref h_t_powers, .int t_leaves, .int t_splits, .ref h_t_tree, .ref h_t_ahead, .ref h_t_behind, .ref h_t_before, .int t_done, .int t_undone, .ref h_t_rows, .ref h_t_met, .ref h_t_metSizes, .int t_metMany, .int t_treesSeen, .ref h_t_chosen, .ref h_t_tape, .int t_taped, .int t_place, .int t_isWrong, .int t_toldGenus, .int t_toldMarks, .ref h_t_toldPowers, .ref h_t_powerPlaces, .int t_isTree, .int t_toldLeaves, .int t_leavesPlace, .int t_toldSplits, .ref h_t_toldTree, .ref h_t_splitPlaces, .ref h_t_layers, .int t_isWhy, .ref h_t_paper, .int t_papered, .ref h_t_held, .ref h_t_numbers, .ref h_t_sizes, .ref h_t_heldLeaves, .ref h_t_items, .ref h_t_kept, .int t_isKept])), (h_t_tree, .inl (cI, 3, .inl a_t_tree))] sz [.ref h_t, .int p0]) (va_Qi (fun r (_ : Unit) => r = r0 ∧ True) (fun _ t => va_P G vwCl [(h_t, .inr (8, [.int t_genus, .int t_marks, .ref h_t_powers, .int t_leaves, .int t_splits, .ref h_t_tree, .ref h_t_ahead, .ref h_t_behind, .ref h_t_before, .int t_done, .int t_undone, .ref h_t_rows, .ref h_t_met, .ref h_t_metSizes, .int t_metMany, .int t_treesSeen, .ref h_t_chosen, .ref h_t_tape, .int t_taped, .int t_place, .int t_isWrong, .int t_toldGenus, .int t_toldMarks, .ref h_t_toldPowers, .ref h_t_powerPlaces, .int t_isTree, .int t_toldLeaves, .int t_leavesPlace, .int t_toldSplits, .ref h_t_toldTree, .ref h_t_splitPlaces, .ref h_t_layers, .int t_isWhy, .ref h_t_paper, .int t_papered, .ref h_t_held, .ref h_t_numbers, .ref h_t_sizes, .ref h_t_heldLeaves, .ref h_t_items, .ref h_t_kept, .int t_isKept])), (h_t_tree, .inl (cI, 3, .inl a_t_tree))] t.heap) (va_A [(h_t, .inr (8, [.int t_genus, .int t_marks, .ref h_t_powers, .int t_leaves, .int t_splits, .ref h_t_tree, .ref h_t_ahead, .ref h_t_behind, .ref h_t_before, .int t_done, .int t_undone, .ref h_t_rows, .ref h_t_met, .ref h_t_metSizes, .int t_metMany, .int t_treesSeen, .ref h_t_chosen, .ref h_t_tape, .int t_taped, .int t_place, .int t_isWrong, .int t_toldGenus, .int t_toldMarks, .ref h_t_toldPowers, .ref h_t_powerPlaces, .int t_isTree, .int t_toldLeaves, .int t_leavesPlace, .int t_toldSplits, .ref h_t_toldTree, .ref h_t_splitPlaces, .ref h_t_layers, .int t_isWhy, .ref h_t_paper, .int t_papered, .ref h_t_held, .ref h_t_numbers, .ref h_t_sizes, .ref h_t_heldLeaves, .ref h_t_items, .ref h_t_kept, .int t_isKept])), (h_t_tree, .inl (cI, 3, .inl a_t_tree))] sz)) 0 0 (va_A [(h_t, .inr (8, [.int t_genus, .int t_marks, .ref h_t_powers, .int t_leaves, .int t_splits, .ref h_t_tree, .ref h_t_ahead, .ref h_t_behind, .ref h_t_before, .int t_done, .int t_undone, .ref h_t_rows, .ref h_t_met, .ref h_t_metSizes, .int t_metMany, .int t_treesSeen, .ref h_t_chosen, .ref h_t_tape, .int t_taped, .int t_place, .int t_isWrong, .int t_toldGenus, .int t_toldMarks, .ref h_t_toldPowers, .ref h_t_powerPlaces, .int t_isTree, .int t_toldLeaves, .int t_leavesPlace, .int t_toldSplits, .ref h_t_toldTree, .ref h_t_splitPlaces, .ref h_t_layers, .int t_isWhy, .ref h_t_paper, .int t_papered, .ref h_t_held, .ref h_t_numbers, .ref h_t_sizes, .ref h_t_heldLeaves, .ref h_t_items, .ref h_t_kept, .int t_isKept])), (h_t_tree, .inl (cI, 3, .inl a_t_tree))] sz) := by
  refine Met.ofW (cc := cX9_splitAt) (maxL := 2) (ret := (some .int)) (by decide) rfl ?_
  intro p e s m args below meth c s₁ B hml hv
  obtain ⟨rfl, hsz, hP, hK, hD0⟩ := hv
  have hx := B.exec
  have hb := B.bytes
  have hr := B.returns
  have hts := atoms_spec (ws := wsX9_splitAt) B.pre
  have hta : ∀ w ∈ wA, w.before ([.ref h_t, .int p0] : List Value).toArray s = true := hta_of hts
  have hown : s.vm.findClass RX9 = some m.cls := findClass_of_methodNamed B.named
  have hlocks := B.notSynchronized
  subst hsz
  have hD := hD0.self (sz := s.heap.size)
  generalize hAe : va_A [(h_t, .inr (8, [.int t_genus, .int t_marks, .ref h_t_powers, .int t_leaves, .int t_splits, .ref h_t_tree, .ref h_t_ahead, .ref h_t_behind, .ref h_t_before, .int t_done, .int t_undone, .ref h_t_rows, .ref h_t_met, .ref h_t_metSizes, .int t_metMany, .int t_treesSeen, .ref h_t_chosen, .ref h_t_tape, .int t_taped, .int t_place, .int t_isWrong, .int t_toldGenus, .int t_toldMarks, .ref h_t_toldPowers, .ref h_t_powerPlaces, .int t_isTree, .int t_toldLeaves, .int t_leavesPlace, .int t_toldSplits, .ref h_t_toldTree, .ref h_t_splitPlaces, .ref h_t_layers, .int t_isWhy, .ref h_t_paper, .int t_papered, .ref h_t_held, .ref h_t_numbers, .ref h_t_sizes, .ref h_t_heldLeaves, .ref h_t_items, .ref h_t_kept, .int t_isKept])), (h_t_tree, .inl (cI, 3, .inl a_t_tree))] s.heap.size = A at hD ⊢
  have hA : ∀ q : Nat, s.heap.size ≤ q → A q := fun q h => by rw [← hAe]; exact Or.inr h
  have hS : va_S A s.heap s.heap [] := va_S.rf
  have hl := lv_entry ([.ref h_t, .int p0]) (n := 2) (Nat.le_of_ble_eq_true rfl)
  rw [lg_entry_eq]
  generalize (lg_sl ([.ref h_t, .int p0]) ++ List.replicate (2 - (lg_sl ([.ref h_t, .int p0])).length) Slot.unset).toArray = ls at hl ⊢
  have hl : lv_has ls 2 [(0, .ref h_t), (1, .int p0)] := hl
  have hinX9 : ∀ w ∈ wsX90, w ∈ wsX9_splitAt := hin_of in_X9
  have h := hF
  unfold F_X9_splitAt at h
  refine lv_iload_n hx hb dX9_splitAt_0 rfl (lv_at hl 1 rfl) ?_
  refine lv_if_ge (tgt := 8) hx hb dX9_splitAt_1 (by decide) (fun c1 => ?_) (fun c1 => ?_)
  rotate_left
  · have h := it_n h c1
    refine lv_iconst (v := (-1 : Int32)) hx hb dX9_splitAt_4 (by decide) ?_
    refine lv_goto (tgt := 27) hx hb dX9_splitAt_5 (by decide) ?_
    have h9 := Option.some.inj h
    have e9 : (-1 : Int32) = r0 := congrArg (fun z9 => z9) h9
    rw [← e9]
    exact k_iret hx hb hr hlocks hP hS rfl dX9_splitAt_27
  have h := it_p h c1
  refine lv_iload_n hx hb dX9_splitAt_8 rfl (lv_at hl 1 rfl) ?_
  refine lv_aload_n hx hb dX9_splitAt_9 rfl (lv_at hl 0 rfl) ?_
  refine va_get (D := G) (ci := 8) (v := .int t_splits) (C := RX9) (T := TX9) (N := 42) hx hb hts hinX9 hown hK hP 0 rfl rfl 4 (by decide) (hta _ mw_642) (fun _ h9 => h9) rfl dX9_splitAt_10 ?_
  refine lv_icmp_ge (tgt := 25) hx hb dX9_splitAt_13 (by decide) (fun c2 => ?_) (fun c2 => ?_)
  · have h := it_p h c2
    refine lv_bipush (v := (-2 : Int32)) hx hb dX9_splitAt_25 (by decide) ?_
    have h9 := Option.some.inj h
    have e9 : (-2 : Int32) = r0 := congrArg (fun z9 => z9) h9
    rw [← e9]
    exact k_iret hx hb hr hlocks hP hS rfl dX9_splitAt_27
  have h := it_n h c2
  refine lv_aload_n hx hb dX9_splitAt_16 rfl (lv_at hl 0 rfl) ?_
  refine va_get (D := G) (ci := 8) (v := .ref h_t_tree) (C := RX9) (T := TX9) (N := 42) hx hb hts hinX9 hown hK hP 0 rfl rfl 5 (by decide) (hta _ mw_610) (fun _ h9 => h9) rfl dX9_splitAt_17 ?_
  refine lv_iload_n hx hb dX9_splitAt_20 rfl (lv_at hl 1 rfl) ?_
  obtain ⟨hn3, h⟩ := ck_e h
  refine va_iald hx hb hK hP 1 0 rfl rfl hn3 dX9_splitAt_21 ?_
  refine lv_goto (tgt := 27) hx hb dX9_splitAt_22 (by decide) ?_
  have h9 := Option.some.inj h
  have e9 : (a_t_tree p0.toNatClampNeg) = r0 := congrArg (fun z9 => z9) h9
  rw [← e9]
  exact k_iret hx hb hr hlocks hP hS rfl dX9_splitAt_27

/-! X9_may -/
set_option maxHeartbeats 4000000 in
set_option maxRecDepth 100000 in
theorem c_X9_may (l : Launch) (G : va_G) (cI cJ cD cH : ClassId) (sz : Nat) (h_t : Nat) (h_t_tree : Nat) (h_t_powers : Nat) (h_t_ahead : Nat) (h_t_behind : Nat) (h_t_before : Nat) (h_t_rows : Nat) (h_t_met : Nat) (h_t_metSizes : Nat) (h_t_chosen : Nat) (h_t_tape : Nat) (h_t_toldPowers : Nat) (h_t_powerPlaces : Nat) (h_t_toldTree : Nat) (h_t_splitPlaces : Nat) (h_t_layers : Nat) (h_t_paper : Nat) (h_t_held : Nat) (h_t_numbers : Nat) (h_t_sizes : Nat) (h_t_heldLeaves : Nat) (h_t_items : Nat) (h_t_kept : Nat) (t_genus : Int32) (t_marks : Int32) (t_leaves : Int32) (t_splits : Int32) (t_done : Int32) (t_undone : Int32) (t_metMany : Int32) (t_treesSeen : Int32) (t_taped : Int32) (t_place : Int32) (t_isWrong : Int32) (t_toldGenus : Int32) (t_toldMarks : Int32) (t_isTree : Int32) (t_toldLeaves : Int32) (t_leavesPlace : Int32) (t_toldSplits : Int32) (t_isWhy : Int32) (t_papered : Int32) (t_isKept : Int32) (a_t_tree : Nat → Int32) (p0 : Int32) (r0 : Int32) (hF : F_X9_may t_leaves t_splits a_t_tree p0 = some r0) : Met l yX9_may wsX9_may ({ frames := 2, cells := 0, slots := 0, locals := 46 }) (k_pre G (k_T cI cJ cD cH) [(h_t, .inr (8, [.int t_genus, .int t_marks, .ref h_t_powers, .int t_leaves, .int t_splits, .ref h_t_tree, .ref h_t_ahead, .ref h_t_behind, .ref h_t_before, .int t_done, .int t_undone, .ref h_t_rows, .ref h_t_met, .ref h_t_metSizes, .int t_metMany, .int t_treesSeen, .ref h_t_chosen, .ref h_t_tape, .int t_taped, .int t_place, .int t_isWrong, .int t_toldGenus, .int t_toldMarks, .ref h_t_toldPowers, .ref h_t_powerPlaces, .int t_isTree, .int t_toldLeaves, .int t_leavesPlace, .int t_toldSplits, .ref h_t_toldTree, .ref h_t_splitPlaces, .ref h_t_layers, .int t_isWhy, .ref h_t_paper, .int t_papered, .ref h_t_held, .ref h_t_numbers, .ref h_t_sizes, .ref h_t_heldLeaves, .ref h_t_items, .ref h_t_kept, .int t_isKept])), (h_t_tree, .inl (cI, 3, .inl a_t_tree))] sz [.ref h_t, .int p0]) (va_Qi (fun r (_ : Unit) => r = r0 ∧ True) (fun _ t => va_P G vwCl [(h_t, .inr (8, [.int t_genus, .int t_marks, .ref h_t_powers, .int t_leaves, .int t_splits, .ref h_t_tree, .ref h_t_ahead, .ref h_t_behind, .ref h_t_before, .int t_done, .int t_undone, .ref h_t_rows, .ref h_t_met, .ref h_t_metSizes, .int t_metMany, .int t_treesSeen, .ref h_t_chosen, .ref h_t_tape, .int t_taped, .int t_place, .int t_isWrong, .int t_toldGenus, .int t_toldMarks, .ref h_t_toldPowers, .ref h_t_powerPlaces, .int t_isTree, .int t_toldLeaves, .int t_leavesPlace, .int t_toldSplits, .ref h_t_toldTree, .ref h_t_splitPlaces, .ref h_t_layers, .int t_isWhy, .ref h_t_paper, .int t_papered, .ref h_t_held, .ref h_t_numbers, .ref h_t_sizes, .ref h_t_heldLeaves, .ref h_t_items, .ref h_t_kept, .int t_isKept])), (h_t_tree, .inl (cI, 3, .inl a_t_tree))] t.heap) (va_A [(h_t, .inr (8, [.int t_genus, .int t_marks, .ref h_t_powers, .int t_leaves, .int t_splits, .ref h_t_tree, .ref h_t_ahead, .ref h_t_behind, .ref h_t_before, .int t_done, .int t_undone, .ref h_t_rows, .ref h_t_met, .ref h_t_metSizes, .int t_metMany, .int t_treesSeen, .ref h_t_chosen, .ref h_t_tape, .int t_taped, .int t_place, .int t_isWrong, .int t_toldGenus, .int t_toldMarks, .ref h_t_toldPowers, .ref h_t_powerPlaces, .int t_isTree, .int t_toldLeaves, .int t_leavesPlace, .int t_toldSplits, .ref h_t_toldTree, .ref h_t_splitPlaces, .ref h_t_layers, .int t_isWhy, .ref h_t_paper, .int t_papered, .ref h_t_held, .ref h_t_numbers, .ref h_t_sizes, .ref h_t_heldLeaves, .ref h_t_items, .ref h_t_kept, .int t_isKept])), (h_t_tree, .inl (cI, 3, .inl a_t_tree))] sz)) 0 0 (va_A [(h_t, .inr (8, [.int t_genus, .int t_marks, .ref h_t_powers, .int t_leaves, .int t_splits, .ref h_t_tree, .ref h_t_ahead, .ref h_t_behind, .ref h_t_before, .int t_done, .int t_undone, .ref h_t_rows, .ref h_t_met, .ref h_t_metSizes, .int t_metMany, .int t_treesSeen, .ref h_t_chosen, .ref h_t_tape, .int t_taped, .int t_place, .int t_isWrong, .int t_toldGenus, .int t_toldMarks, .ref h_t_toldPowers, .ref h_t_powerPlaces, .int t_isTree, .int t_toldLeaves, .int t_leavesPlace, .int t_toldSplits, .ref h_t_toldTree, .ref h_t_splitPlaces, .ref h_t_layers, .int t_isWhy, .ref h_t_paper, .int t_papered, .ref h_t_held, .ref h_t_numbers, .ref h_t_sizes, .ref h_t_heldLeaves, .ref h_t_items, .ref h_t_kept, .int t_isKept])), (h_t_tree, .inl (cI, 3, .inl a_t_tree))] sz) := by
  refine Met.ofW (cc := cX9_may) (maxL := 2) (ret := (some .int)) (by decide) rfl ?_
  intro p e s m args below meth c s₁ B hml hv
  obtain ⟨rfl, hsz, hP, hK, hD0⟩ := hv
  have hx := B.exec
  have hb := B.bytes
  have hr := B.returns
  have hts := atoms_spec (ws := wsX9_may) B.pre
  have hta : ∀ w ∈ wA, w.before ([.ref h_t, .int p0] : List Value).toArray s = true := hta_of hts
  have hown : s.vm.findClass RX9 = some m.cls := findClass_of_methodNamed B.named
  have hlocks := B.notSynchronized
  subst hsz
  have hD := hD0.self (sz := s.heap.size)
  generalize hAe : va_A [(h_t, .inr (8, [.int t_genus, .int t_marks, .ref h_t_powers, .int t_leaves, .int t_splits, .ref h_t_tree, .ref h_t_ahead, .ref h_t_behind, .ref h_t_before, .int t_done, .int t_undone, .ref h_t_rows, .ref h_t_met, .ref h_t_metSizes, .int t_metMany, .int t_treesSeen, .ref h_t_chosen, .ref h_t_tape, .int t_taped, .int t_place, .int t_isWrong, .int t_toldGenus, .int t_toldMarks, .ref h_t_toldPowers, .ref h_t_powerPlaces, .int t_isTree, .int t_toldLeaves, .int t_leavesPlace, .int t_toldSplits, .ref h_t_toldTree, .ref h_t_splitPlaces, .ref h_t_layers, .int t_isWhy, .ref h_t_paper, .int t_papered, .ref h_t_held, .ref h_t_numbers, .ref h_t_sizes, .ref h_t_heldLeaves, .ref h_t_items, .ref h_t_kept, .int t_isKept])), (h_t_tree, .inl (cI, 3, .inl a_t_tree))] s.heap.size = A at hD ⊢
  have hA : ∀ q : Nat, s.heap.size ≤ q → A q := fun q h => by rw [← hAe]; exact Or.inr h
  have hS : va_S A s.heap s.heap [] := va_S.rf
  have hl := lv_entry ([.ref h_t, .int p0]) (n := 2) (Nat.le_of_ble_eq_true rfl)
  rw [lg_entry_eq]
  generalize (lg_sl ([.ref h_t, .int p0]) ++ List.replicate (2 - (lg_sl ([.ref h_t, .int p0])).length) Slot.unset).toArray = ls at hl ⊢
  have hl : lv_has ls 2 [(0, .ref h_t), (1, .int p0)] := hl
  have hinX9 : ∀ w ∈ wsX90, w ∈ wsX9_may := hin_of in_X9
  have h := hF
  unfold F_X9_may at h
  refine lv_iload_n hx hb dX9_may_0 rfl (lv_at hl 1 rfl) ?_
  refine lv_aload_n hx hb dX9_may_1 rfl (lv_at hl 0 rfl) ?_
  refine va_get (D := G) (ci := 8) (v := .int t_leaves) (C := RX9) (T := TX9) (N := 42) hx hb hts hinX9 hown hK hP 0 rfl rfl 3 (by decide) (hta _ mw_609) (fun _ h9 => h9) rfl dX9_may_2 ?_
  obtain ⟨x1, hx1, h⟩ := bd_e h
  try dsimp only at h
  refine k_SiU (n := 2) (As := [.int p0, .int t_leaves]) (rest := []) hx hb hml hown hts (c_X9_isSplit l G cI cJ cD cH s.heap.size p0 t_leaves x1 hx1) gX9_may_X9_isSplit rfl rfl rfl (by decide +kernel) ⟨by first | exact Nat.le_of_ble_eq_true rfl | (simp only [headSpec]; omega), by first | exact Nat.le_of_ble_eq_true rfl | (simp only [headSpec]; omega)⟩ hK hP hD hS hA [] (by decide) rfl rfl rfl hl.1 (Nat.le_of_ble_eq_true rfl) dX9_may_5 ⟨Nat.zero_le _, Nat.zero_le _⟩ (fun hp1 H locs hP hS => ?_)
  refine lv_if_eq (tgt := 27) hx hb dX9_may_8 (by decide) (fun c2 => ?_) (fun c2 => ?_)
  · have h := it_p h c2
    refine lv_iconst (v := (-1 : Int32)) hx hb dX9_may_27 (by decide) ?_
    have h9 := Option.some.inj h
    have e9 : (-1 : Int32) = r0 := congrArg (fun z9 => z9) h9
    rw [← e9]
    exact k_iret hx hb hr hlocks hP hS rfl dX9_may_28
  have h := it_n h c2
  refine lv_aload_n hx hb dX9_may_11 rfl (lv_at hl 0 rfl) ?_
  refine lv_iload_n hx hb dX9_may_12 rfl (lv_at hl 1 rfl) ?_
  obtain ⟨x3, hx3, h⟩ := bd_e h
  try dsimp only at h
  refine k_ViU (n := 1) (As := [.int p0]) (rest := []) hx hb hml hown hts (c_X9_mayCome l G cI cJ cD cH H.size h_t h_t_tree h_t_powers h_t_ahead h_t_behind h_t_before h_t_rows h_t_met h_t_metSizes h_t_chosen h_t_tape h_t_toldPowers h_t_powerPlaces h_t_toldTree h_t_splitPlaces h_t_layers h_t_paper h_t_held h_t_numbers h_t_sizes h_t_heldLeaves h_t_items h_t_kept t_genus t_marks t_leaves t_splits t_done t_undone t_metMany t_treesSeen t_taped t_place t_isWrong t_toldGenus t_toldMarks t_isTree t_toldLeaves t_leavesPlace t_toldSplits t_isWhy t_papered t_isKept a_t_tree p0 x3 hx3) gX9_may_X9_mayCome rfl rfl rfl (by decide +kernel) ⟨by first | exact Nat.le_of_ble_eq_true rfl | (simp only [headSpec]; omega), by first | exact Nat.le_of_ble_eq_true rfl | (simp only [headSpec]; omega)⟩ hK hP hD hS hA [0, 1] (by decide) rfl (ci := 8) rfl rfl rfl rfl rfl hl.1 (Nat.le_of_ble_eq_true rfl) dX9_may_13 ⟨Nat.zero_le _, Nat.zero_le _⟩ (fun hp3 H locs hP hS => ?_)
  refine lv_if_eq (tgt := 23) hx hb dX9_may_16 (by decide) (fun c4 => ?_) (fun c4 => ?_)
  · have h := it_p h c4
    refine lv_iconst (v := (0 : Int32)) hx hb dX9_may_23 (by decide) ?_
    refine lv_goto (tgt := 28) hx hb dX9_may_24 (by decide) ?_
    have h9 := Option.some.inj h
    have e9 : (0 : Int32) = r0 := congrArg (fun z9 => z9) h9
    rw [← e9]
    exact k_iret hx hb hr hlocks hP hS rfl dX9_may_28
  have h := it_n h c4
  refine lv_iconst (v := (1 : Int32)) hx hb dX9_may_19 (by decide) ?_
  refine lv_goto (tgt := 28) hx hb dX9_may_20 (by decide) ?_
  have h9 := Option.some.inj h
  have e9 : (1 : Int32) = r0 := congrArg (fun z9 => z9) h9
  rw [← e9]
  exact k_iret hx hb hr hlocks hP hS rfl dX9_may_28

/-! X9_isWithin -/
set_option maxHeartbeats 4000000 in
set_option maxRecDepth 100000 in
theorem c_X9_isWithin (l : Launch) (G : va_G) (cI cJ cD cH : ClassId) (sz : Nat) (h_t : Nat) (h_t_powers : Nat) (h_t_tree : Nat) (h_t_ahead : Nat) (h_t_behind : Nat) (h_t_before : Nat) (h_t_rows : Nat) (h_t_met : Nat) (h_t_metSizes : Nat) (h_t_chosen : Nat) (h_t_tape : Nat) (h_t_toldPowers : Nat) (h_t_powerPlaces : Nat) (h_t_toldTree : Nat) (h_t_splitPlaces : Nat) (h_t_layers : Nat) (h_t_paper : Nat) (h_t_held : Nat) (h_t_numbers : Nat) (h_t_sizes : Nat) (h_t_heldLeaves : Nat) (h_t_items : Nat) (h_t_kept : Nat) (t_genus : Int32) (t_marks : Int32) (t_leaves : Int32) (t_splits : Int32) (t_done : Int32) (t_undone : Int32) (t_metMany : Int32) (t_treesSeen : Int32) (t_taped : Int32) (t_place : Int32) (t_isWrong : Int32) (t_toldGenus : Int32) (t_toldMarks : Int32) (t_isTree : Int32) (t_toldLeaves : Int32) (t_leavesPlace : Int32) (t_toldSplits : Int32) (t_isWhy : Int32) (t_papered : Int32) (t_isKept : Int32) (p0 : Int32) (p1 : Int32) (r0 : Int32) (hF : F_X9_isWithin p0 p1 = some r0) : Met l yX9_isWithin wsX9_isWithin ({ frames := 0, cells := 0, slots := 0, locals := 0 }) (k_pre G (k_T cI cJ cD cH) [(h_t, .inr (8, [.int t_genus, .int t_marks, .ref h_t_powers, .int t_leaves, .int t_splits, .ref h_t_tree, .ref h_t_ahead, .ref h_t_behind, .ref h_t_before, .int t_done, .int t_undone, .ref h_t_rows, .ref h_t_met, .ref h_t_metSizes, .int t_metMany, .int t_treesSeen, .ref h_t_chosen, .ref h_t_tape, .int t_taped, .int t_place, .int t_isWrong, .int t_toldGenus, .int t_toldMarks, .ref h_t_toldPowers, .ref h_t_powerPlaces, .int t_isTree, .int t_toldLeaves, .int t_leavesPlace, .int t_toldSplits, .ref h_t_toldTree, .ref h_t_splitPlaces, .ref h_t_layers, .int t_isWhy, .ref h_t_paper, .int t_papered, .ref h_t_held, .ref h_t_numbers, .ref h_t_sizes, .ref h_t_heldLeaves, .ref h_t_items, .ref h_t_kept, .int t_isKept]))] sz [.ref h_t, .int p0, .int p1]) (va_Qi (fun r (_ : Unit) => r = r0 ∧ narrow .boolean (.int r0) = .int r0) (fun _ t => va_P G vwCl [(h_t, .inr (8, [.int t_genus, .int t_marks, .ref h_t_powers, .int t_leaves, .int t_splits, .ref h_t_tree, .ref h_t_ahead, .ref h_t_behind, .ref h_t_before, .int t_done, .int t_undone, .ref h_t_rows, .ref h_t_met, .ref h_t_metSizes, .int t_metMany, .int t_treesSeen, .ref h_t_chosen, .ref h_t_tape, .int t_taped, .int t_place, .int t_isWrong, .int t_toldGenus, .int t_toldMarks, .ref h_t_toldPowers, .ref h_t_powerPlaces, .int t_isTree, .int t_toldLeaves, .int t_leavesPlace, .int t_toldSplits, .ref h_t_toldTree, .ref h_t_splitPlaces, .ref h_t_layers, .int t_isWhy, .ref h_t_paper, .int t_papered, .ref h_t_held, .ref h_t_numbers, .ref h_t_sizes, .ref h_t_heldLeaves, .ref h_t_items, .ref h_t_kept, .int t_isKept]))] t.heap) (va_A [(h_t, .inr (8, [.int t_genus, .int t_marks, .ref h_t_powers, .int t_leaves, .int t_splits, .ref h_t_tree, .ref h_t_ahead, .ref h_t_behind, .ref h_t_before, .int t_done, .int t_undone, .ref h_t_rows, .ref h_t_met, .ref h_t_metSizes, .int t_metMany, .int t_treesSeen, .ref h_t_chosen, .ref h_t_tape, .int t_taped, .int t_place, .int t_isWrong, .int t_toldGenus, .int t_toldMarks, .ref h_t_toldPowers, .ref h_t_powerPlaces, .int t_isTree, .int t_toldLeaves, .int t_leavesPlace, .int t_toldSplits, .ref h_t_toldTree, .ref h_t_splitPlaces, .ref h_t_layers, .int t_isWhy, .ref h_t_paper, .int t_papered, .ref h_t_held, .ref h_t_numbers, .ref h_t_sizes, .ref h_t_heldLeaves, .ref h_t_items, .ref h_t_kept, .int t_isKept]))] sz)) 0 0 (va_A [(h_t, .inr (8, [.int t_genus, .int t_marks, .ref h_t_powers, .int t_leaves, .int t_splits, .ref h_t_tree, .ref h_t_ahead, .ref h_t_behind, .ref h_t_before, .int t_done, .int t_undone, .ref h_t_rows, .ref h_t_met, .ref h_t_metSizes, .int t_metMany, .int t_treesSeen, .ref h_t_chosen, .ref h_t_tape, .int t_taped, .int t_place, .int t_isWrong, .int t_toldGenus, .int t_toldMarks, .ref h_t_toldPowers, .ref h_t_powerPlaces, .int t_isTree, .int t_toldLeaves, .int t_leavesPlace, .int t_toldSplits, .ref h_t_toldTree, .ref h_t_splitPlaces, .ref h_t_layers, .int t_isWhy, .ref h_t_paper, .int t_papered, .ref h_t_held, .ref h_t_numbers, .ref h_t_sizes, .ref h_t_heldLeaves, .ref h_t_items, .ref h_t_kept, .int t_isKept]))] sz) := by
  refine Met.ofW (cc := cX9_isWithin) (maxL := 3) (ret := (some .boolean)) (by decide) rfl ?_
  intro p e s m args below meth c s₁ B hml hv
  obtain ⟨rfl, hsz, hP, hK, hD0⟩ := hv
  have hx := B.exec
  have hb := B.bytes
  have hr := B.returns
  have hts := atoms_spec (ws := wsX9_isWithin) B.pre
  have hta : ∀ w ∈ wA, w.before ([.ref h_t, .int p0, .int p1] : List Value).toArray s = true := hta_of hts
  have hown : s.vm.findClass RX9 = some m.cls := findClass_of_methodNamed B.named
  have hlocks := B.notSynchronized
  subst hsz
  have hD := hD0.self (sz := s.heap.size)
  generalize hAe : va_A [(h_t, .inr (8, [.int t_genus, .int t_marks, .ref h_t_powers, .int t_leaves, .int t_splits, .ref h_t_tree, .ref h_t_ahead, .ref h_t_behind, .ref h_t_before, .int t_done, .int t_undone, .ref h_t_rows, .ref h_t_met, .ref h_t_metSizes, .int t_metMany, .int t_treesSeen, .ref h_t_chosen, .ref h_t_tape, .int t_taped, .int t_place, .int t_isWrong, .int t_toldGenus, .int t_toldMarks, .ref h_t_toldPowers, .ref h_t_powerPlaces, .int t_isTree, .int t_toldLeaves, .int t_leavesPlace, .int t_toldSplits, .ref h_t_toldTree, .ref h_t_splitPlaces, .ref h_t_layers, .int t_isWhy, .ref h_t_paper, .int t_papered, .ref h_t_held, .ref h_t_numbers, .ref h_t_sizes, .ref h_t_heldLeaves, .ref h_t_items, .ref h_t_kept, .int t_isKept]))] s.heap.size = A at hD ⊢
  have hA : ∀ q : Nat, s.heap.size ≤ q → A q := fun q h => by rw [← hAe]; exact Or.inr h
  have hS : va_S A s.heap s.heap [] := va_S.rf
  have hl := lv_entry ([.ref h_t, .int p0, .int p1]) (n := 3) (Nat.le_of_ble_eq_true rfl)
  rw [lg_entry_eq]
  generalize (lg_sl ([.ref h_t, .int p0, .int p1]) ++ List.replicate (3 - (lg_sl ([.ref h_t, .int p0, .int p1])).length) Slot.unset).toArray = ls at hl ⊢
  have hl : lv_has ls 3 [(0, .ref h_t), (1, .int p0), (2, .int p1)] := hl
  have h := hF
  unfold F_X9_isWithin at h
  refine lv_iload_n hx hb dX9_isWithin_0 rfl (lv_at hl 1 rfl) ?_
  refine lv_iload_n hx hb dX9_isWithin_1 rfl (lv_at hl 2 rfl) ?_
  refine lv_icmp_eq (tgt := 16) hx hb dX9_isWithin_2 (by decide) (fun c1 => ?_) (fun c1 => ?_)
  · have h := it_p h c1
    refine lv_iconst (v := (0 : Int32)) hx hb dX9_isWithin_16 (by decide) ?_
    have h9 := Option.some.inj h
    have e9 : (0 : Int32) = r0 := congrArg (fun z9 => z9) h9
    rw [← e9]
    exact k_zret hx hb hr hlocks hP hS rfl rfl dX9_isWithin_17
  have h := it_n h c1
  refine lv_iload_n hx hb dX9_isWithin_5 rfl (lv_at hl 1 rfl) ?_
  refine lv_iload_n hx hb dX9_isWithin_6 rfl (lv_at hl 2 rfl) ?_
  refine lv_iand hx hb dX9_isWithin_7 ?_
  refine lv_iload_n hx hb dX9_isWithin_8 rfl (lv_at hl 1 rfl) ?_
  refine lv_icmp_ne (tgt := 16) hx hb dX9_isWithin_9 (by decide) (fun c2 => ?_) (fun c2 => ?_)
  · have h := it_n h c2
    refine lv_iconst (v := (0 : Int32)) hx hb dX9_isWithin_16 (by decide) ?_
    have h9 := Option.some.inj h
    have e9 : (0 : Int32) = r0 := congrArg (fun z9 => z9) h9
    rw [← e9]
    exact k_zret hx hb hr hlocks hP hS rfl rfl dX9_isWithin_17
  have h := it_p h c2
  refine lv_iconst (v := (1 : Int32)) hx hb dX9_isWithin_12 (by decide) ?_
  refine lv_goto (tgt := 17) hx hb dX9_isWithin_13 (by decide) ?_
  have h9 := Option.some.inj h
  have e9 : (1 : Int32) = r0 := congrArg (fun z9 => z9) h9
  rw [← e9]
  exact k_zret hx hb hr hlocks hP hS rfl rfl dX9_isWithin_17

/-! X9_isBelow -/
set_option maxHeartbeats 4000000 in
set_option maxRecDepth 100000 in
theorem c_X9_isBelow (l : Launch) (G : va_G) (cI cJ cD cH : ClassId) (sz : Nat) (h_t : Nat) (h_t_tree : Nat) (h_t_powers : Nat) (h_t_ahead : Nat) (h_t_behind : Nat) (h_t_before : Nat) (h_t_rows : Nat) (h_t_met : Nat) (h_t_metSizes : Nat) (h_t_chosen : Nat) (h_t_tape : Nat) (h_t_toldPowers : Nat) (h_t_powerPlaces : Nat) (h_t_toldTree : Nat) (h_t_splitPlaces : Nat) (h_t_layers : Nat) (h_t_paper : Nat) (h_t_held : Nat) (h_t_numbers : Nat) (h_t_sizes : Nat) (h_t_heldLeaves : Nat) (h_t_items : Nat) (h_t_kept : Nat) (t_genus : Int32) (t_marks : Int32) (t_leaves : Int32) (t_splits : Int32) (t_done : Int32) (t_undone : Int32) (t_metMany : Int32) (t_treesSeen : Int32) (t_taped : Int32) (t_place : Int32) (t_isWrong : Int32) (t_toldGenus : Int32) (t_toldMarks : Int32) (t_isTree : Int32) (t_toldLeaves : Int32) (t_leavesPlace : Int32) (t_toldSplits : Int32) (t_isWhy : Int32) (t_papered : Int32) (t_isKept : Int32) (a_t_tree : Nat → Int32) (p0 : Int32) (p1 : Int32) (r0 : Int32) (hF : F_X9_isBelow t_splits a_t_tree p0 p1 = some r0) : Met l yX9_isBelow wsX9_isBelow ({ frames := 1, cells := 0, slots := 0, locals := 22 }) (k_pre G (k_T cI cJ cD cH) [(h_t, .inr (8, [.int t_genus, .int t_marks, .ref h_t_powers, .int t_leaves, .int t_splits, .ref h_t_tree, .ref h_t_ahead, .ref h_t_behind, .ref h_t_before, .int t_done, .int t_undone, .ref h_t_rows, .ref h_t_met, .ref h_t_metSizes, .int t_metMany, .int t_treesSeen, .ref h_t_chosen, .ref h_t_tape, .int t_taped, .int t_place, .int t_isWrong, .int t_toldGenus, .int t_toldMarks, .ref h_t_toldPowers, .ref h_t_powerPlaces, .int t_isTree, .int t_toldLeaves, .int t_leavesPlace, .int t_toldSplits, .ref h_t_toldTree, .ref h_t_splitPlaces, .ref h_t_layers, .int t_isWhy, .ref h_t_paper, .int t_papered, .ref h_t_held, .ref h_t_numbers, .ref h_t_sizes, .ref h_t_heldLeaves, .ref h_t_items, .ref h_t_kept, .int t_isKept])), (h_t_tree, .inl (cI, 3, .inl a_t_tree))] sz [.ref h_t, .int p0, .int p1]) (va_Qi (fun r (_ : Unit) => r = r0 ∧ True) (fun _ t => va_P G vwCl [(h_t, .inr (8, [.int t_genus, .int t_marks, .ref h_t_powers, .int t_leaves, .int t_splits, .ref h_t_tree, .ref h_t_ahead, .ref h_t_behind, .ref h_t_before, .int t_done, .int t_undone, .ref h_t_rows, .ref h_t_met, .ref h_t_metSizes, .int t_metMany, .int t_treesSeen, .ref h_t_chosen, .ref h_t_tape, .int t_taped, .int t_place, .int t_isWrong, .int t_toldGenus, .int t_toldMarks, .ref h_t_toldPowers, .ref h_t_powerPlaces, .int t_isTree, .int t_toldLeaves, .int t_leavesPlace, .int t_toldSplits, .ref h_t_toldTree, .ref h_t_splitPlaces, .ref h_t_layers, .int t_isWhy, .ref h_t_paper, .int t_papered, .ref h_t_held, .ref h_t_numbers, .ref h_t_sizes, .ref h_t_heldLeaves, .ref h_t_items, .ref h_t_kept, .int t_isKept])), (h_t_tree, .inl (cI, 3, .inl a_t_tree))] t.heap) (va_A [(h_t, .inr (8, [.int t_genus, .int t_marks, .ref h_t_powers, .int t_leaves, .int t_splits, .ref h_t_tree, .ref h_t_ahead, .ref h_t_behind, .ref h_t_before, .int t_done, .int t_undone, .ref h_t_rows, .ref h_t_met, .ref h_t_metSizes, .int t_metMany, .int t_treesSeen, .ref h_t_chosen, .ref h_t_tape, .int t_taped, .int t_place, .int t_isWrong, .int t_toldGenus, .int t_toldMarks, .ref h_t_toldPowers, .ref h_t_powerPlaces, .int t_isTree, .int t_toldLeaves, .int t_leavesPlace, .int t_toldSplits, .ref h_t_toldTree, .ref h_t_splitPlaces, .ref h_t_layers, .int t_isWhy, .ref h_t_paper, .int t_papered, .ref h_t_held, .ref h_t_numbers, .ref h_t_sizes, .ref h_t_heldLeaves, .ref h_t_items, .ref h_t_kept, .int t_isKept])), (h_t_tree, .inl (cI, 3, .inl a_t_tree))] sz)) 0 0 (va_A [(h_t, .inr (8, [.int t_genus, .int t_marks, .ref h_t_powers, .int t_leaves, .int t_splits, .ref h_t_tree, .ref h_t_ahead, .ref h_t_behind, .ref h_t_before, .int t_done, .int t_undone, .ref h_t_rows, .ref h_t_met, .ref h_t_metSizes, .int t_metMany, .int t_treesSeen, .ref h_t_chosen, .ref h_t_tape, .int t_taped, .int t_place, .int t_isWrong, .int t_toldGenus, .int t_toldMarks, .ref h_t_toldPowers, .ref h_t_powerPlaces, .int t_isTree, .int t_toldLeaves, .int t_leavesPlace, .int t_toldSplits, .ref h_t_toldTree, .ref h_t_splitPlaces, .ref h_t_layers, .int t_isWhy, .ref h_t_paper, .int t_papered, .ref h_t_held, .ref h_t_numbers, .ref h_t_sizes, .ref h_t_heldLeaves, .ref h_t_items, .ref h_t_kept, .int t_isKept])), (h_t_tree, .inl (cI, 3, .inl a_t_tree))] sz) := by
  refine Met.ofW (cc := cX9_isBelow) (maxL := 4) (ret := (some .int)) (by decide) rfl ?_
  intro p e s m args below meth c s₁ B hml hv
  obtain ⟨rfl, hsz, hP, hK, hD0⟩ := hv
  have hx := B.exec
  have hb := B.bytes
  have hr := B.returns
  have hts := atoms_spec (ws := wsX9_isBelow) B.pre
  have hta : ∀ w ∈ wA, w.before ([.ref h_t, .int p0, .int p1] : List Value).toArray s = true := hta_of hts
  have hown : s.vm.findClass RX9 = some m.cls := findClass_of_methodNamed B.named
  have hlocks := B.notSynchronized
  subst hsz
  have hD := hD0.self (sz := s.heap.size)
  generalize hAe : va_A [(h_t, .inr (8, [.int t_genus, .int t_marks, .ref h_t_powers, .int t_leaves, .int t_splits, .ref h_t_tree, .ref h_t_ahead, .ref h_t_behind, .ref h_t_before, .int t_done, .int t_undone, .ref h_t_rows, .ref h_t_met, .ref h_t_metSizes, .int t_metMany, .int t_treesSeen, .ref h_t_chosen, .ref h_t_tape, .int t_taped, .int t_place, .int t_isWrong, .int t_toldGenus, .int t_toldMarks, .ref h_t_toldPowers, .ref h_t_powerPlaces, .int t_isTree, .int t_toldLeaves, .int t_leavesPlace, .int t_toldSplits, .ref h_t_toldTree, .ref h_t_splitPlaces, .ref h_t_layers, .int t_isWhy, .ref h_t_paper, .int t_papered, .ref h_t_held, .ref h_t_numbers, .ref h_t_sizes, .ref h_t_heldLeaves, .ref h_t_items, .ref h_t_kept, .int t_isKept])), (h_t_tree, .inl (cI, 3, .inl a_t_tree))] s.heap.size = A at hD ⊢
  have hA : ∀ q : Nat, s.heap.size ≤ q → A q := fun q h => by rw [← hAe]; exact Or.inr h
  have hS : va_S A s.heap s.heap [] := va_S.rf
  have hl := lv_entry ([.ref h_t, .int p0, .int p1]) (n := 4) (Nat.le_of_ble_eq_true rfl)
  rw [lg_entry_eq]
  generalize (lg_sl ([.ref h_t, .int p0, .int p1]) ++ List.replicate (4 - (lg_sl ([.ref h_t, .int p0, .int p1])).length) Slot.unset).toArray = ls at hl ⊢
  have hl : lv_has ls 4 [(0, .ref h_t), (1, .int p0), (2, .int p1)] := hl
  have hinX9 : ∀ w ∈ wsX90, w ∈ wsX9_isBelow := hin_of in_X9
  have h := hF
  unfold F_X9_isBelow at h
  refine lv_iload_n hx hb dX9_isBelow_0 rfl (lv_at hl 2 rfl) ?_
  refine lv_if_eq (tgt := 20) hx hb dX9_isBelow_1 (by decide) (fun c1 => ?_) (fun c1 => ?_)
  · have h := it_p h c1
    refine lv_iconst (v := (0 : Int32)) hx hb dX9_isBelow_20 (by decide) ?_
    refine lv_istore_n (lv' := [(3, .int (0 : Int32)), (0, .ref h_t), (1, .int p0), (2, .int p1)]) hx hb dX9_isBelow_21 rfl hl (by decide) rfl (fun ls hl => ?_)
    have hK_X9_isBelow_22_75 : ∀ (H : Heap) (locs : List Loc) (ls : Array Slot), va_P G vwCl [(h_t, .inr (8, [.int t_genus, .int t_marks, .ref h_t_powers, .int t_leaves, .int t_splits, .ref h_t_tree, .ref h_t_ahead, .ref h_t_behind, .ref h_t_before, .int t_done, .int t_undone, .ref h_t_rows, .ref h_t_met, .ref h_t_metSizes, .int t_metMany, .int t_treesSeen, .ref h_t_chosen, .ref h_t_tape, .int t_taped, .int t_place, .int t_isWrong, .int t_toldGenus, .int t_toldMarks, .ref h_t_toldPowers, .ref h_t_powerPlaces, .int t_isTree, .int t_toldLeaves, .int t_leavesPlace, .int t_toldSplits, .ref h_t_toldTree, .ref h_t_splitPlaces, .ref h_t_layers, .int t_isWhy, .ref h_t_paper, .int t_papered, .ref h_t_held, .ref h_t_numbers, .ref h_t_sizes, .ref h_t_heldLeaves, .ref h_t_items, .ref h_t_kept, .int t_isKept])), (h_t_tree, .inl (cI, 3, .inl a_t_tree))] H → va_D A [(h_t, .inr (8, [.int t_genus, .int t_marks, .ref h_t_powers, .int t_leaves, .int t_splits, .ref h_t_tree, .ref h_t_ahead, .ref h_t_behind, .ref h_t_before, .int t_done, .int t_undone, .ref h_t_rows, .ref h_t_met, .ref h_t_metSizes, .int t_metMany, .int t_treesSeen, .ref h_t_chosen, .ref h_t_tape, .int t_taped, .int t_place, .int t_isWrong, .int t_toldGenus, .int t_toldMarks, .ref h_t_toldPowers, .ref h_t_powerPlaces, .int t_isTree, .int t_toldLeaves, .int t_leavesPlace, .int t_toldSplits, .ref h_t_toldTree, .ref h_t_splitPlaces, .ref h_t_layers, .int t_isWhy, .ref h_t_paper, .int t_papered, .ref h_t_held, .ref h_t_numbers, .ref h_t_sizes, .ref h_t_heldLeaves, .ref h_t_items, .ref h_t_kept, .int t_isKept])), (h_t_tree, .inl (cI, 3, .inl a_t_tree))] → va_S A s.heap H locs → lv_has ls 4 [] → K_X9_isBelow_22_75 = some r0 → W p l e (headSpec wsX9_isBelow ({ frames := 1, cells := 0, slots := 0, locals := 22 })).room s m ([.ref h_t, .int p0, .int p1] : List Value).toArray below meth c H locs 0 0 (MQ below (va_Qi (fun r (_ : Unit) => r = r0 ∧ True) (fun _ t => va_P G vwCl [(h_t, .inr (8, [.int t_genus, .int t_marks, .ref h_t_powers, .int t_leaves, .int t_splits, .ref h_t_tree, .ref h_t_ahead, .ref h_t_behind, .ref h_t_before, .int t_done, .int t_undone, .ref h_t_rows, .ref h_t_met, .ref h_t_metSizes, .int t_metMany, .int t_treesSeen, .ref h_t_chosen, .ref h_t_tape, .int t_taped, .int t_place, .int t_isWrong, .int t_toldGenus, .int t_toldMarks, .ref h_t_toldPowers, .ref h_t_powerPlaces, .int t_isTree, .int t_toldLeaves, .int t_leavesPlace, .int t_toldSplits, .ref h_t_toldTree, .ref h_t_splitPlaces, .ref h_t_layers, .int t_isWhy, .ref h_t_paper, .int t_papered, .ref h_t_held, .ref h_t_numbers, .ref h_t_sizes, .ref h_t_heldLeaves, .ref h_t_items, .ref h_t_kept, .int t_isKept])), (h_t_tree, .inl (cI, 3, .inl a_t_tree))] t.heap) A) ([.ref h_t, .int p0, .int p1] : List Value).toArray s 0 0 A) (F0 m 75 ls []) := by
      intro  H locs ls hP hD hS hl h
      unfold K_X9_isBelow_22_75 at h
      refine lv_iconst (v := (1 : Int32)) hx hb dX9_isBelow_75 (by decide) ?_
      have h9 := Option.some.inj h
      have e9 : (1 : Int32) = r0 := congrArg (fun z9 => z9) h9
      rw [← e9]
      exact k_iret hx hb hr hlocks hP hS rfl dX9_isBelow_76
    have hL22 : ∀ (n22 : Nat) (vL22_0 : Int32) (H : Heap) (locs : List Loc) (ls : Array Slot), va_P G vwCl [(h_t, .inr (8, [.int t_genus, .int t_marks, .ref h_t_powers, .int t_leaves, .int t_splits, .ref h_t_tree, .ref h_t_ahead, .ref h_t_behind, .ref h_t_before, .int t_done, .int t_undone, .ref h_t_rows, .ref h_t_met, .ref h_t_metSizes, .int t_metMany, .int t_treesSeen, .ref h_t_chosen, .ref h_t_tape, .int t_taped, .int t_place, .int t_isWrong, .int t_toldGenus, .int t_toldMarks, .ref h_t_toldPowers, .ref h_t_powerPlaces, .int t_isTree, .int t_toldLeaves, .int t_leavesPlace, .int t_toldSplits, .ref h_t_toldTree, .ref h_t_splitPlaces, .ref h_t_layers, .int t_isWhy, .ref h_t_paper, .int t_papered, .ref h_t_held, .ref h_t_numbers, .ref h_t_sizes, .ref h_t_heldLeaves, .ref h_t_items, .ref h_t_kept, .int t_isKept])), (h_t_tree, .inl (cI, 3, .inl a_t_tree))] H → va_D A [(h_t, .inr (8, [.int t_genus, .int t_marks, .ref h_t_powers, .int t_leaves, .int t_splits, .ref h_t_tree, .ref h_t_ahead, .ref h_t_behind, .ref h_t_before, .int t_done, .int t_undone, .ref h_t_rows, .ref h_t_met, .ref h_t_metSizes, .int t_metMany, .int t_treesSeen, .ref h_t_chosen, .ref h_t_tape, .int t_taped, .int t_place, .int t_isWrong, .int t_toldGenus, .int t_toldMarks, .ref h_t_toldPowers, .ref h_t_powerPlaces, .int t_isTree, .int t_toldLeaves, .int t_leavesPlace, .int t_toldSplits, .ref h_t_toldTree, .ref h_t_splitPlaces, .ref h_t_layers, .int t_isWhy, .ref h_t_paper, .int t_papered, .ref h_t_held, .ref h_t_numbers, .ref h_t_sizes, .ref h_t_heldLeaves, .ref h_t_items, .ref h_t_kept, .int t_isKept])), (h_t_tree, .inl (cI, 3, .inl a_t_tree))] → va_S A s.heap H locs → lv_has ls 4 [(0, .ref h_t), (1, .int p0), (2, .int p1), (3, .int vL22_0)] → wq1 (B_X9_isBelow_22 t_splits a_t_tree p0 p1 K_X9_isBelow_22_75) n22 vL22_0 = some r0 → W p l e (headSpec wsX9_isBelow ({ frames := 1, cells := 0, slots := 0, locals := 22 })).room s m ([.ref h_t, .int p0, .int p1] : List Value).toArray below meth c H locs 0 0 (MQ below (va_Qi (fun r (_ : Unit) => r = r0 ∧ True) (fun _ t => va_P G vwCl [(h_t, .inr (8, [.int t_genus, .int t_marks, .ref h_t_powers, .int t_leaves, .int t_splits, .ref h_t_tree, .ref h_t_ahead, .ref h_t_behind, .ref h_t_before, .int t_done, .int t_undone, .ref h_t_rows, .ref h_t_met, .ref h_t_metSizes, .int t_metMany, .int t_treesSeen, .ref h_t_chosen, .ref h_t_tape, .int t_taped, .int t_place, .int t_isWrong, .int t_toldGenus, .int t_toldMarks, .ref h_t_toldPowers, .ref h_t_powerPlaces, .int t_isTree, .int t_toldLeaves, .int t_leavesPlace, .int t_toldSplits, .ref h_t_toldTree, .ref h_t_splitPlaces, .ref h_t_layers, .int t_isWhy, .ref h_t_paper, .int t_papered, .ref h_t_held, .ref h_t_numbers, .ref h_t_sizes, .ref h_t_heldLeaves, .ref h_t_items, .ref h_t_kept, .int t_isKept])), (h_t_tree, .inl (cI, 3, .inl a_t_tree))] t.heap) A) ([.ref h_t, .int p0, .int p1] : List Value).toArray s 0 0 A) (F0 m 22 ls []) := by
      intro n22
      induction n22 with
      | zero => intro vL22_0 H locs ls hP hD hS hl h; exact wq1_0 h
      | succ n22 ih22 =>
        intro vL22_0 H locs ls hP hD hS hl h
        have h := wq1_s h
        unfold B_X9_isBelow_22 at h
        refine lv_iload_n hx hb dX9_isBelow_22 rfl (lv_at hl 3 rfl) ?_
        refine lv_aload_n hx hb dX9_isBelow_23 rfl (lv_at hl 0 rfl) ?_
        refine va_get (D := G) (ci := 8) (v := .int t_splits) (C := RX9) (T := TX9) (N := 42) hx hb hts hinX9 hown hK hP 0 rfl rfl 4 (by decide) (hta _ mw_642) (fun _ h9 => h9) rfl dX9_isBelow_24 ?_
        refine lv_icmp_ge (tgt := 75) hx hb dX9_isBelow_27 (by decide) (fun c2 => ?_) (fun c2 => ?_)
        · have h := it_p h c2
          exact hK_X9_isBelow_22_75  _ _ _ hP hD hS (lv_sub hl [] rfl) h
        have h := it_n h c2
        refine lv_aload_n hx hb dX9_isBelow_30 rfl (lv_at hl 0 rfl) ?_
        refine lv_aload_n hx hb dX9_isBelow_31 rfl (lv_at hl 0 rfl) ?_
        refine va_get (D := G) (ci := 8) (v := .ref h_t_tree) (C := RX9) (T := TX9) (N := 42) hx hb hts hinX9 hown hK hP 0 rfl rfl 5 (by decide) (hta _ mw_610) (fun _ h9 => h9) rfl dX9_isBelow_32 ?_
        refine lv_iload_n hx hb dX9_isBelow_35 rfl (lv_at hl 1 rfl) ?_
        obtain ⟨hn3, h⟩ := ck_e h
        refine va_iald hx hb hK hP 1 0 rfl rfl hn3 dX9_isBelow_36 ?_
        refine lv_aload_n hx hb dX9_isBelow_37 rfl (lv_at hl 0 rfl) ?_
        refine va_get (D := G) (ci := 8) (v := .ref h_t_tree) (C := RX9) (T := TX9) (N := 42) hx hb hts hinX9 hown hK hP 0 rfl rfl 5 (by decide) (hta _ mw_610) (fun _ h9 => h9) rfl dX9_isBelow_38 ?_
        refine lv_iload_n hx hb dX9_isBelow_41 rfl (lv_at hl 3 rfl) ?_
        obtain ⟨hn4, h⟩ := ck_e h
        refine va_iald hx hb hK hP 1 0 rfl rfl hn4 dX9_isBelow_42 ?_
        obtain ⟨x5, hx5, h⟩ := bd_e h
        try dsimp only at h
        refine k_ViU (n := 2) (As := [.int (a_t_tree p0.toNatClampNeg), .int (a_t_tree vL22_0.toNatClampNeg)]) (rest := []) hx hb hml hown hts (c_X9_isWithin l G cI cJ cD cH H.size h_t h_t_powers h_t_tree h_t_ahead h_t_behind h_t_before h_t_rows h_t_met h_t_metSizes h_t_chosen h_t_tape h_t_toldPowers h_t_powerPlaces h_t_toldTree h_t_splitPlaces h_t_layers h_t_paper h_t_held h_t_numbers h_t_sizes h_t_heldLeaves h_t_items h_t_kept t_genus t_marks t_leaves t_splits t_done t_undone t_metMany t_treesSeen t_taped t_place t_isWrong t_toldGenus t_toldMarks t_isTree t_toldLeaves t_leavesPlace t_toldSplits t_isWhy t_papered t_isKept (a_t_tree p0.toNatClampNeg) (a_t_tree vL22_0.toNatClampNeg) x5 hx5) gX9_isBelow_X9_isWithin rfl rfl rfl (by decide +kernel) ⟨by first | exact Nat.le_of_ble_eq_true rfl | (simp only [headSpec]; omega), by first | exact Nat.le_of_ble_eq_true rfl | (simp only [headSpec]; omega)⟩ hK hP hD hS hA [0] (by decide) rfl (ci := 8) rfl rfl rfl rfl rfl hl.1 (Nat.le_of_ble_eq_true rfl) dX9_isBelow_43 ⟨Nat.zero_le _, Nat.zero_le _⟩ (fun hp5 H locs hP hS => ?_)
        refine lv_if_eq (tgt := 69) hx hb dX9_isBelow_46 (by decide) (fun c6 => ?_) (fun c6 => ?_)
        · have h := it_p h c6
          refine lv_iinc (v := (vL22_0 + (1 : Int32))) (lv' := [(3, .int (vL22_0 + (1 : Int32))), (0, .ref h_t), (1, .int p0), (2, .int p1)]) hx hb dX9_isBelow_69 hl (k := 3) rfl (by first | rfl | decide) (by decide) rfl (fun ls hl => ?_)
          refine lv_goto (tgt := 22) hx hb dX9_isBelow_72 (by decide) ?_
          exact ih22 (vL22_0 + (1 : Int32)) _ _ _ hP hD hS (lv_sub hl [1, 2, 3, 0] rfl) h
        have h := it_n h c6
        refine lv_iload_n hx hb dX9_isBelow_49 rfl (lv_at hl 2 rfl) ?_
        refine lv_if_eq (tgt := 67) hx hb dX9_isBelow_50 (by decide) (fun c7 => ?_) (fun c7 => ?_)
        · have h := it_p h c7
          refine lv_iconst (v := (0 : Int32)) hx hb dX9_isBelow_67 (by decide) ?_
          have h9 := Option.some.inj h
          have e9 : (0 : Int32) = r0 := congrArg (fun z9 => z9) h9
          rw [← e9]
          exact k_iret hx hb hr hlocks hP hS rfl dX9_isBelow_68
        have h := it_n h c7
        refine lv_aload_n hx hb dX9_isBelow_53 rfl (lv_at hl 0 rfl) ?_
        refine lv_aload_n hx hb dX9_isBelow_54 rfl (lv_at hl 0 rfl) ?_
        refine va_get (D := G) (ci := 8) (v := .ref h_t_tree) (C := RX9) (T := TX9) (N := 42) hx hb hts hinX9 hown hK hP 0 rfl rfl 5 (by decide) (hta _ mw_610) (fun _ h9 => h9) rfl dX9_isBelow_55 ?_
        refine lv_iload_n hx hb dX9_isBelow_58 rfl (lv_at hl 3 rfl) ?_
        obtain ⟨hn8, h⟩ := ck_e h
        refine va_iald hx hb hK hP 1 0 rfl rfl hn8 dX9_isBelow_59 ?_
        refine lv_iload_n hx hb dX9_isBelow_60 rfl (lv_at hl 2 rfl) ?_
        obtain ⟨x9, hx9, h⟩ := bd_e h
        try dsimp only at h
        refine k_ViU (n := 2) (As := [.int (a_t_tree vL22_0.toNatClampNeg), .int p1]) (rest := []) hx hb hml hown hts (c_X9_isWithin l G cI cJ cD cH H.size h_t h_t_powers h_t_tree h_t_ahead h_t_behind h_t_before h_t_rows h_t_met h_t_metSizes h_t_chosen h_t_tape h_t_toldPowers h_t_powerPlaces h_t_toldTree h_t_splitPlaces h_t_layers h_t_paper h_t_held h_t_numbers h_t_sizes h_t_heldLeaves h_t_items h_t_kept t_genus t_marks t_leaves t_splits t_done t_undone t_metMany t_treesSeen t_taped t_place t_isWrong t_toldGenus t_toldMarks t_isTree t_toldLeaves t_leavesPlace t_toldSplits t_isWhy t_papered t_isKept (a_t_tree vL22_0.toNatClampNeg) p1 x9 hx9) gX9_isBelow_X9_isWithin rfl rfl rfl (by decide +kernel) ⟨by first | exact Nat.le_of_ble_eq_true rfl | (simp only [headSpec]; omega), by first | exact Nat.le_of_ble_eq_true rfl | (simp only [headSpec]; omega)⟩ hK hP hD hS hA [0] (by decide) rfl (ci := 8) rfl rfl rfl rfl rfl hl.1 (Nat.le_of_ble_eq_true rfl) dX9_isBelow_61 ⟨Nat.zero_le _, Nat.zero_le _⟩ (fun hp9 H locs hP hS => ?_)
        refine lv_if_eq (tgt := 69) hx hb dX9_isBelow_64 (by decide) (fun c10 => ?_) (fun c10 => ?_)
        · have h := it_p h c10
          refine lv_iinc (v := (vL22_0 + (1 : Int32))) (lv' := [(3, .int (vL22_0 + (1 : Int32))), (0, .ref h_t), (1, .int p0), (2, .int p1)]) hx hb dX9_isBelow_69 hl (k := 3) rfl (by first | rfl | decide) (by decide) rfl (fun ls hl => ?_)
          refine lv_goto (tgt := 22) hx hb dX9_isBelow_72 (by decide) ?_
          exact ih22 (vL22_0 + (1 : Int32)) _ _ _ hP hD hS (lv_sub hl [1, 2, 3, 0] rfl) h
        have h := it_n h c10
        refine lv_iconst (v := (0 : Int32)) hx hb dX9_isBelow_67 (by decide) ?_
        have h9 := Option.some.inj h
        have e9 : (0 : Int32) = r0 := congrArg (fun z9 => z9) h9
        rw [← e9]
        exact k_iret hx hb hr hlocks hP hS rfl dX9_isBelow_68
    exact hL22 FU (0 : Int32) _ _ _ hP hD hS (lv_sub hl [1, 2, 3, 0] rfl) h
  have h := it_n h c1
  refine lv_aload_n hx hb dX9_isBelow_4 rfl (lv_at hl 0 rfl) ?_
  refine lv_aload_n hx hb dX9_isBelow_5 rfl (lv_at hl 0 rfl) ?_
  refine va_get (D := G) (ci := 8) (v := .ref h_t_tree) (C := RX9) (T := TX9) (N := 42) hx hb hts hinX9 hown hK hP 0 rfl rfl 5 (by decide) (hta _ mw_610) (fun _ h9 => h9) rfl dX9_isBelow_6 ?_
  refine lv_iload_n hx hb dX9_isBelow_9 rfl (lv_at hl 1 rfl) ?_
  obtain ⟨hn11, h⟩ := ck_e h
  refine va_iald hx hb hK hP 1 0 rfl rfl hn11 dX9_isBelow_10 ?_
  refine lv_iload_n hx hb dX9_isBelow_11 rfl (lv_at hl 2 rfl) ?_
  obtain ⟨x12, hx12, h⟩ := bd_e h
  try dsimp only at h
  refine k_ViU (n := 2) (As := [.int (a_t_tree p0.toNatClampNeg), .int p1]) (rest := []) hx hb hml hown hts (c_X9_isWithin l G cI cJ cD cH s.heap.size h_t h_t_powers h_t_tree h_t_ahead h_t_behind h_t_before h_t_rows h_t_met h_t_metSizes h_t_chosen h_t_tape h_t_toldPowers h_t_powerPlaces h_t_toldTree h_t_splitPlaces h_t_layers h_t_paper h_t_held h_t_numbers h_t_sizes h_t_heldLeaves h_t_items h_t_kept t_genus t_marks t_leaves t_splits t_done t_undone t_metMany t_treesSeen t_taped t_place t_isWrong t_toldGenus t_toldMarks t_isTree t_toldLeaves t_leavesPlace t_toldSplits t_isWhy t_papered t_isKept (a_t_tree p0.toNatClampNeg) p1 x12 hx12) gX9_isBelow_X9_isWithin rfl rfl rfl (by decide +kernel) ⟨by first | exact Nat.le_of_ble_eq_true rfl | (simp only [headSpec]; omega), by first | exact Nat.le_of_ble_eq_true rfl | (simp only [headSpec]; omega)⟩ hK hP hD hS hA [0] (by decide) rfl (ci := 8) rfl rfl rfl rfl rfl hl.1 (Nat.le_of_ble_eq_true rfl) dX9_isBelow_12 ⟨Nat.zero_le _, Nat.zero_le _⟩ (fun hp12 H locs hP hS => ?_)
  refine lv_if_ne (tgt := 20) hx hb dX9_isBelow_15 (by decide) (fun c13 => ?_) (fun c13 => ?_)
  rotate_left
  · have h := it_p h c13
    refine lv_iconst (v := (0 : Int32)) hx hb dX9_isBelow_18 (by decide) ?_
    have h9 := Option.some.inj h
    have e9 : (0 : Int32) = r0 := congrArg (fun z9 => z9) h9
    rw [← e9]
    exact k_iret hx hb hr hlocks hP hS rfl dX9_isBelow_19
  have h := it_n h c13
  refine lv_iconst (v := (0 : Int32)) hx hb dX9_isBelow_20 (by decide) ?_
  refine lv_istore_n (lv' := [(3, .int (0 : Int32)), (0, .ref h_t), (1, .int p0), (2, .int p1)]) hx hb dX9_isBelow_21 rfl hl (by decide) rfl (fun ls hl => ?_)
  have hK_X9_isBelow_22_75x1 : ∀ (H : Heap) (locs : List Loc) (ls : Array Slot), va_P G vwCl [(h_t, .inr (8, [.int t_genus, .int t_marks, .ref h_t_powers, .int t_leaves, .int t_splits, .ref h_t_tree, .ref h_t_ahead, .ref h_t_behind, .ref h_t_before, .int t_done, .int t_undone, .ref h_t_rows, .ref h_t_met, .ref h_t_metSizes, .int t_metMany, .int t_treesSeen, .ref h_t_chosen, .ref h_t_tape, .int t_taped, .int t_place, .int t_isWrong, .int t_toldGenus, .int t_toldMarks, .ref h_t_toldPowers, .ref h_t_powerPlaces, .int t_isTree, .int t_toldLeaves, .int t_leavesPlace, .int t_toldSplits, .ref h_t_toldTree, .ref h_t_splitPlaces, .ref h_t_layers, .int t_isWhy, .ref h_t_paper, .int t_papered, .ref h_t_held, .ref h_t_numbers, .ref h_t_sizes, .ref h_t_heldLeaves, .ref h_t_items, .ref h_t_kept, .int t_isKept])), (h_t_tree, .inl (cI, 3, .inl a_t_tree))] H → va_D A [(h_t, .inr (8, [.int t_genus, .int t_marks, .ref h_t_powers, .int t_leaves, .int t_splits, .ref h_t_tree, .ref h_t_ahead, .ref h_t_behind, .ref h_t_before, .int t_done, .int t_undone, .ref h_t_rows, .ref h_t_met, .ref h_t_metSizes, .int t_metMany, .int t_treesSeen, .ref h_t_chosen, .ref h_t_tape, .int t_taped, .int t_place, .int t_isWrong, .int t_toldGenus, .int t_toldMarks, .ref h_t_toldPowers, .ref h_t_powerPlaces, .int t_isTree, .int t_toldLeaves, .int t_leavesPlace, .int t_toldSplits, .ref h_t_toldTree, .ref h_t_splitPlaces, .ref h_t_layers, .int t_isWhy, .ref h_t_paper, .int t_papered, .ref h_t_held, .ref h_t_numbers, .ref h_t_sizes, .ref h_t_heldLeaves, .ref h_t_items, .ref h_t_kept, .int t_isKept])), (h_t_tree, .inl (cI, 3, .inl a_t_tree))] → va_S A s.heap H locs → lv_has ls 4 [] → K_X9_isBelow_22_75x1 = some r0 → W p l e (headSpec wsX9_isBelow ({ frames := 1, cells := 0, slots := 0, locals := 22 })).room s m ([.ref h_t, .int p0, .int p1] : List Value).toArray below meth c H locs 0 0 (MQ below (va_Qi (fun r (_ : Unit) => r = r0 ∧ True) (fun _ t => va_P G vwCl [(h_t, .inr (8, [.int t_genus, .int t_marks, .ref h_t_powers, .int t_leaves, .int t_splits, .ref h_t_tree, .ref h_t_ahead, .ref h_t_behind, .ref h_t_before, .int t_done, .int t_undone, .ref h_t_rows, .ref h_t_met, .ref h_t_metSizes, .int t_metMany, .int t_treesSeen, .ref h_t_chosen, .ref h_t_tape, .int t_taped, .int t_place, .int t_isWrong, .int t_toldGenus, .int t_toldMarks, .ref h_t_toldPowers, .ref h_t_powerPlaces, .int t_isTree, .int t_toldLeaves, .int t_leavesPlace, .int t_toldSplits, .ref h_t_toldTree, .ref h_t_splitPlaces, .ref h_t_layers, .int t_isWhy, .ref h_t_paper, .int t_papered, .ref h_t_held, .ref h_t_numbers, .ref h_t_sizes, .ref h_t_heldLeaves, .ref h_t_items, .ref h_t_kept, .int t_isKept])), (h_t_tree, .inl (cI, 3, .inl a_t_tree))] t.heap) A) ([.ref h_t, .int p0, .int p1] : List Value).toArray s 0 0 A) (F0 m 75 ls []) := by
    intro  H locs ls hP hD hS hl h
    unfold K_X9_isBelow_22_75x1 at h
    refine lv_iconst (v := (1 : Int32)) hx hb dX9_isBelow_75 (by decide) ?_
    have h9 := Option.some.inj h
    have e9 : (1 : Int32) = r0 := congrArg (fun z9 => z9) h9
    rw [← e9]
    exact k_iret hx hb hr hlocks hP hS rfl dX9_isBelow_76
  have hL22x1 : ∀ (n22 : Nat) (vL22_0 : Int32) (H : Heap) (locs : List Loc) (ls : Array Slot), va_P G vwCl [(h_t, .inr (8, [.int t_genus, .int t_marks, .ref h_t_powers, .int t_leaves, .int t_splits, .ref h_t_tree, .ref h_t_ahead, .ref h_t_behind, .ref h_t_before, .int t_done, .int t_undone, .ref h_t_rows, .ref h_t_met, .ref h_t_metSizes, .int t_metMany, .int t_treesSeen, .ref h_t_chosen, .ref h_t_tape, .int t_taped, .int t_place, .int t_isWrong, .int t_toldGenus, .int t_toldMarks, .ref h_t_toldPowers, .ref h_t_powerPlaces, .int t_isTree, .int t_toldLeaves, .int t_leavesPlace, .int t_toldSplits, .ref h_t_toldTree, .ref h_t_splitPlaces, .ref h_t_layers, .int t_isWhy, .ref h_t_paper, .int t_papered, .ref h_t_held, .ref h_t_numbers, .ref h_t_sizes, .ref h_t_heldLeaves, .ref h_t_items, .ref h_t_kept, .int t_isKept])), (h_t_tree, .inl (cI, 3, .inl a_t_tree))] H → va_D A [(h_t, .inr (8, [.int t_genus, .int t_marks, .ref h_t_powers, .int t_leaves, .int t_splits, .ref h_t_tree, .ref h_t_ahead, .ref h_t_behind, .ref h_t_before, .int t_done, .int t_undone, .ref h_t_rows, .ref h_t_met, .ref h_t_metSizes, .int t_metMany, .int t_treesSeen, .ref h_t_chosen, .ref h_t_tape, .int t_taped, .int t_place, .int t_isWrong, .int t_toldGenus, .int t_toldMarks, .ref h_t_toldPowers, .ref h_t_powerPlaces, .int t_isTree, .int t_toldLeaves, .int t_leavesPlace, .int t_toldSplits, .ref h_t_toldTree, .ref h_t_splitPlaces, .ref h_t_layers, .int t_isWhy, .ref h_t_paper, .int t_papered, .ref h_t_held, .ref h_t_numbers, .ref h_t_sizes, .ref h_t_heldLeaves, .ref h_t_items, .ref h_t_kept, .int t_isKept])), (h_t_tree, .inl (cI, 3, .inl a_t_tree))] → va_S A s.heap H locs → lv_has ls 4 [(0, .ref h_t), (1, .int p0), (2, .int p1), (3, .int vL22_0)] → wq1 (B_X9_isBelow_22x1 t_splits a_t_tree p0 p1 K_X9_isBelow_22_75x1) n22 vL22_0 = some r0 → W p l e (headSpec wsX9_isBelow ({ frames := 1, cells := 0, slots := 0, locals := 22 })).room s m ([.ref h_t, .int p0, .int p1] : List Value).toArray below meth c H locs 0 0 (MQ below (va_Qi (fun r (_ : Unit) => r = r0 ∧ True) (fun _ t => va_P G vwCl [(h_t, .inr (8, [.int t_genus, .int t_marks, .ref h_t_powers, .int t_leaves, .int t_splits, .ref h_t_tree, .ref h_t_ahead, .ref h_t_behind, .ref h_t_before, .int t_done, .int t_undone, .ref h_t_rows, .ref h_t_met, .ref h_t_metSizes, .int t_metMany, .int t_treesSeen, .ref h_t_chosen, .ref h_t_tape, .int t_taped, .int t_place, .int t_isWrong, .int t_toldGenus, .int t_toldMarks, .ref h_t_toldPowers, .ref h_t_powerPlaces, .int t_isTree, .int t_toldLeaves, .int t_leavesPlace, .int t_toldSplits, .ref h_t_toldTree, .ref h_t_splitPlaces, .ref h_t_layers, .int t_isWhy, .ref h_t_paper, .int t_papered, .ref h_t_held, .ref h_t_numbers, .ref h_t_sizes, .ref h_t_heldLeaves, .ref h_t_items, .ref h_t_kept, .int t_isKept])), (h_t_tree, .inl (cI, 3, .inl a_t_tree))] t.heap) A) ([.ref h_t, .int p0, .int p1] : List Value).toArray s 0 0 A) (F0 m 22 ls []) := by
    intro n22
    induction n22 with
    | zero => intro vL22_0 H locs ls hP hD hS hl h; exact wq1_0 h
    | succ n22 ih22 =>
      intro vL22_0 H locs ls hP hD hS hl h
      have h := wq1_s h
      unfold B_X9_isBelow_22x1 at h
      refine lv_iload_n hx hb dX9_isBelow_22 rfl (lv_at hl 3 rfl) ?_
      refine lv_aload_n hx hb dX9_isBelow_23 rfl (lv_at hl 0 rfl) ?_
      refine va_get (D := G) (ci := 8) (v := .int t_splits) (C := RX9) (T := TX9) (N := 42) hx hb hts hinX9 hown hK hP 0 rfl rfl 4 (by decide) (hta _ mw_642) (fun _ h9 => h9) rfl dX9_isBelow_24 ?_
      refine lv_icmp_ge (tgt := 75) hx hb dX9_isBelow_27 (by decide) (fun c14 => ?_) (fun c14 => ?_)
      · have h := it_p h c14
        exact hK_X9_isBelow_22_75x1  _ _ _ hP hD hS (lv_sub hl [] rfl) h
      have h := it_n h c14
      refine lv_aload_n hx hb dX9_isBelow_30 rfl (lv_at hl 0 rfl) ?_
      refine lv_aload_n hx hb dX9_isBelow_31 rfl (lv_at hl 0 rfl) ?_
      refine va_get (D := G) (ci := 8) (v := .ref h_t_tree) (C := RX9) (T := TX9) (N := 42) hx hb hts hinX9 hown hK hP 0 rfl rfl 5 (by decide) (hta _ mw_610) (fun _ h9 => h9) rfl dX9_isBelow_32 ?_
      refine lv_iload_n hx hb dX9_isBelow_35 rfl (lv_at hl 1 rfl) ?_
      obtain ⟨hn15, h⟩ := ck_e h
      refine va_iald hx hb hK hP 1 0 rfl rfl hn15 dX9_isBelow_36 ?_
      refine lv_aload_n hx hb dX9_isBelow_37 rfl (lv_at hl 0 rfl) ?_
      refine va_get (D := G) (ci := 8) (v := .ref h_t_tree) (C := RX9) (T := TX9) (N := 42) hx hb hts hinX9 hown hK hP 0 rfl rfl 5 (by decide) (hta _ mw_610) (fun _ h9 => h9) rfl dX9_isBelow_38 ?_
      refine lv_iload_n hx hb dX9_isBelow_41 rfl (lv_at hl 3 rfl) ?_
      obtain ⟨hn16, h⟩ := ck_e h
      refine va_iald hx hb hK hP 1 0 rfl rfl hn16 dX9_isBelow_42 ?_
      obtain ⟨x17, hx17, h⟩ := bd_e h
      try dsimp only at h
      refine k_ViU (n := 2) (As := [.int (a_t_tree p0.toNatClampNeg), .int (a_t_tree vL22_0.toNatClampNeg)]) (rest := []) hx hb hml hown hts (c_X9_isWithin l G cI cJ cD cH H.size h_t h_t_powers h_t_tree h_t_ahead h_t_behind h_t_before h_t_rows h_t_met h_t_metSizes h_t_chosen h_t_tape h_t_toldPowers h_t_powerPlaces h_t_toldTree h_t_splitPlaces h_t_layers h_t_paper h_t_held h_t_numbers h_t_sizes h_t_heldLeaves h_t_items h_t_kept t_genus t_marks t_leaves t_splits t_done t_undone t_metMany t_treesSeen t_taped t_place t_isWrong t_toldGenus t_toldMarks t_isTree t_toldLeaves t_leavesPlace t_toldSplits t_isWhy t_papered t_isKept (a_t_tree p0.toNatClampNeg) (a_t_tree vL22_0.toNatClampNeg) x17 hx17) gX9_isBelow_X9_isWithin rfl rfl rfl (by decide +kernel) ⟨by first | exact Nat.le_of_ble_eq_true rfl | (simp only [headSpec]; omega), by first | exact Nat.le_of_ble_eq_true rfl | (simp only [headSpec]; omega)⟩ hK hP hD hS hA [0] (by decide) rfl (ci := 8) rfl rfl rfl rfl rfl hl.1 (Nat.le_of_ble_eq_true rfl) dX9_isBelow_43 ⟨Nat.zero_le _, Nat.zero_le _⟩ (fun hp17 H locs hP hS => ?_)
      refine lv_if_eq (tgt := 69) hx hb dX9_isBelow_46 (by decide) (fun c18 => ?_) (fun c18 => ?_)
      · have h := it_p h c18
        refine lv_iinc (v := (vL22_0 + (1 : Int32))) (lv' := [(3, .int (vL22_0 + (1 : Int32))), (0, .ref h_t), (1, .int p0), (2, .int p1)]) hx hb dX9_isBelow_69 hl (k := 3) rfl (by first | rfl | decide) (by decide) rfl (fun ls hl => ?_)
        refine lv_goto (tgt := 22) hx hb dX9_isBelow_72 (by decide) ?_
        exact ih22 (vL22_0 + (1 : Int32)) _ _ _ hP hD hS (lv_sub hl [1, 2, 3, 0] rfl) h
      have h := it_n h c18
      refine lv_iload_n hx hb dX9_isBelow_49 rfl (lv_at hl 2 rfl) ?_
      refine lv_if_eq (tgt := 67) hx hb dX9_isBelow_50 (by decide) (fun c19 => ?_) (fun c19 => ?_)
      · have h := it_p h c19
        refine lv_iconst (v := (0 : Int32)) hx hb dX9_isBelow_67 (by decide) ?_
        have h9 := Option.some.inj h
        have e9 : (0 : Int32) = r0 := congrArg (fun z9 => z9) h9
        rw [← e9]
        exact k_iret hx hb hr hlocks hP hS rfl dX9_isBelow_68
      have h := it_n h c19
      refine lv_aload_n hx hb dX9_isBelow_53 rfl (lv_at hl 0 rfl) ?_
      refine lv_aload_n hx hb dX9_isBelow_54 rfl (lv_at hl 0 rfl) ?_
      refine va_get (D := G) (ci := 8) (v := .ref h_t_tree) (C := RX9) (T := TX9) (N := 42) hx hb hts hinX9 hown hK hP 0 rfl rfl 5 (by decide) (hta _ mw_610) (fun _ h9 => h9) rfl dX9_isBelow_55 ?_
      refine lv_iload_n hx hb dX9_isBelow_58 rfl (lv_at hl 3 rfl) ?_
      obtain ⟨hn20, h⟩ := ck_e h
      refine va_iald hx hb hK hP 1 0 rfl rfl hn20 dX9_isBelow_59 ?_
      refine lv_iload_n hx hb dX9_isBelow_60 rfl (lv_at hl 2 rfl) ?_
      obtain ⟨x21, hx21, h⟩ := bd_e h
      try dsimp only at h
      refine k_ViU (n := 2) (As := [.int (a_t_tree vL22_0.toNatClampNeg), .int p1]) (rest := []) hx hb hml hown hts (c_X9_isWithin l G cI cJ cD cH H.size h_t h_t_powers h_t_tree h_t_ahead h_t_behind h_t_before h_t_rows h_t_met h_t_metSizes h_t_chosen h_t_tape h_t_toldPowers h_t_powerPlaces h_t_toldTree h_t_splitPlaces h_t_layers h_t_paper h_t_held h_t_numbers h_t_sizes h_t_heldLeaves h_t_items h_t_kept t_genus t_marks t_leaves t_splits t_done t_undone t_metMany t_treesSeen t_taped t_place t_isWrong t_toldGenus t_toldMarks t_isTree t_toldLeaves t_leavesPlace t_toldSplits t_isWhy t_papered t_isKept (a_t_tree vL22_0.toNatClampNeg) p1 x21 hx21) gX9_isBelow_X9_isWithin rfl rfl rfl (by decide +kernel) ⟨by first | exact Nat.le_of_ble_eq_true rfl | (simp only [headSpec]; omega), by first | exact Nat.le_of_ble_eq_true rfl | (simp only [headSpec]; omega)⟩ hK hP hD hS hA [0] (by decide) rfl (ci := 8) rfl rfl rfl rfl rfl hl.1 (Nat.le_of_ble_eq_true rfl) dX9_isBelow_61 ⟨Nat.zero_le _, Nat.zero_le _⟩ (fun hp21 H locs hP hS => ?_)
      refine lv_if_eq (tgt := 69) hx hb dX9_isBelow_64 (by decide) (fun c22 => ?_) (fun c22 => ?_)
      · have h := it_p h c22
        refine lv_iinc (v := (vL22_0 + (1 : Int32))) (lv' := [(3, .int (vL22_0 + (1 : Int32))), (0, .ref h_t), (1, .int p0), (2, .int p1)]) hx hb dX9_isBelow_69 hl (k := 3) rfl (by first | rfl | decide) (by decide) rfl (fun ls hl => ?_)
        refine lv_goto (tgt := 22) hx hb dX9_isBelow_72 (by decide) ?_
        exact ih22 (vL22_0 + (1 : Int32)) _ _ _ hP hD hS (lv_sub hl [1, 2, 3, 0] rfl) h
      have h := it_n h c22
      refine lv_iconst (v := (0 : Int32)) hx hb dX9_isBelow_67 (by decide) ?_
      have h9 := Option.some.inj h
      have e9 : (0 : Int32) = r0 := congrArg (fun z9 => z9) h9
      rw [← e9]
      exact k_iret hx hb hr hlocks hP hS rfl dX9_isBelow_68
  exact hL22x1 FU (0 : Int32) _ _ _ hP hD hS (lv_sub hl [1, 2, 3, 0] rfl) h

/-! X9_edges -/
set_option maxHeartbeats 4000000 in
set_option maxRecDepth 100000 in
theorem c_X9_edges (l : Launch) (G : va_G) (cI cJ cD cH : ClassId) (sz : Nat) (h_t : Nat) (h_t_tree : Nat) (h_t_powers : Nat) (h_t_ahead : Nat) (h_t_behind : Nat) (h_t_before : Nat) (h_t_rows : Nat) (h_t_met : Nat) (h_t_metSizes : Nat) (h_t_chosen : Nat) (h_t_tape : Nat) (h_t_toldPowers : Nat) (h_t_powerPlaces : Nat) (h_t_toldTree : Nat) (h_t_splitPlaces : Nat) (h_t_layers : Nat) (h_t_paper : Nat) (h_t_held : Nat) (h_t_numbers : Nat) (h_t_sizes : Nat) (h_t_heldLeaves : Nat) (h_t_items : Nat) (h_t_kept : Nat) (t_genus : Int32) (t_marks : Int32) (t_leaves : Int32) (t_splits : Int32) (t_done : Int32) (t_undone : Int32) (t_metMany : Int32) (t_treesSeen : Int32) (t_taped : Int32) (t_place : Int32) (t_isWrong : Int32) (t_toldGenus : Int32) (t_toldMarks : Int32) (t_isTree : Int32) (t_toldLeaves : Int32) (t_leavesPlace : Int32) (t_toldSplits : Int32) (t_isWhy : Int32) (t_papered : Int32) (t_isKept : Int32) (a_t_tree : Nat → Int32) (p0 : Int32) (r0 : Int32) (hF : F_X9_edges t_splits a_t_tree p0 = some r0) : Met l yX9_edges wsX9_edges ({ frames := 2, cells := 0, slots := 0, locals := 45 }) (k_pre G (k_T cI cJ cD cH) [(h_t, .inr (8, [.int t_genus, .int t_marks, .ref h_t_powers, .int t_leaves, .int t_splits, .ref h_t_tree, .ref h_t_ahead, .ref h_t_behind, .ref h_t_before, .int t_done, .int t_undone, .ref h_t_rows, .ref h_t_met, .ref h_t_metSizes, .int t_metMany, .int t_treesSeen, .ref h_t_chosen, .ref h_t_tape, .int t_taped, .int t_place, .int t_isWrong, .int t_toldGenus, .int t_toldMarks, .ref h_t_toldPowers, .ref h_t_powerPlaces, .int t_isTree, .int t_toldLeaves, .int t_leavesPlace, .int t_toldSplits, .ref h_t_toldTree, .ref h_t_splitPlaces, .ref h_t_layers, .int t_isWhy, .ref h_t_paper, .int t_papered, .ref h_t_held, .ref h_t_numbers, .ref h_t_sizes, .ref h_t_heldLeaves, .ref h_t_items, .ref h_t_kept, .int t_isKept])), (h_t_tree, .inl (cI, 3, .inl a_t_tree))] sz [.ref h_t, .int p0]) (va_Qi (fun r (_ : Unit) => r = r0 ∧ True) (fun _ t => va_P G vwCl [(h_t, .inr (8, [.int t_genus, .int t_marks, .ref h_t_powers, .int t_leaves, .int t_splits, .ref h_t_tree, .ref h_t_ahead, .ref h_t_behind, .ref h_t_before, .int t_done, .int t_undone, .ref h_t_rows, .ref h_t_met, .ref h_t_metSizes, .int t_metMany, .int t_treesSeen, .ref h_t_chosen, .ref h_t_tape, .int t_taped, .int t_place, .int t_isWrong, .int t_toldGenus, .int t_toldMarks, .ref h_t_toldPowers, .ref h_t_powerPlaces, .int t_isTree, .int t_toldLeaves, .int t_leavesPlace, .int t_toldSplits, .ref h_t_toldTree, .ref h_t_splitPlaces, .ref h_t_layers, .int t_isWhy, .ref h_t_paper, .int t_papered, .ref h_t_held, .ref h_t_numbers, .ref h_t_sizes, .ref h_t_heldLeaves, .ref h_t_items, .ref h_t_kept, .int t_isKept])), (h_t_tree, .inl (cI, 3, .inl a_t_tree))] t.heap) (va_A [(h_t, .inr (8, [.int t_genus, .int t_marks, .ref h_t_powers, .int t_leaves, .int t_splits, .ref h_t_tree, .ref h_t_ahead, .ref h_t_behind, .ref h_t_before, .int t_done, .int t_undone, .ref h_t_rows, .ref h_t_met, .ref h_t_metSizes, .int t_metMany, .int t_treesSeen, .ref h_t_chosen, .ref h_t_tape, .int t_taped, .int t_place, .int t_isWrong, .int t_toldGenus, .int t_toldMarks, .ref h_t_toldPowers, .ref h_t_powerPlaces, .int t_isTree, .int t_toldLeaves, .int t_leavesPlace, .int t_toldSplits, .ref h_t_toldTree, .ref h_t_splitPlaces, .ref h_t_layers, .int t_isWhy, .ref h_t_paper, .int t_papered, .ref h_t_held, .ref h_t_numbers, .ref h_t_sizes, .ref h_t_heldLeaves, .ref h_t_items, .ref h_t_kept, .int t_isKept])), (h_t_tree, .inl (cI, 3, .inl a_t_tree))] sz)) 0 0 (va_A [(h_t, .inr (8, [.int t_genus, .int t_marks, .ref h_t_powers, .int t_leaves, .int t_splits, .ref h_t_tree, .ref h_t_ahead, .ref h_t_behind, .ref h_t_before, .int t_done, .int t_undone, .ref h_t_rows, .ref h_t_met, .ref h_t_metSizes, .int t_metMany, .int t_treesSeen, .ref h_t_chosen, .ref h_t_tape, .int t_taped, .int t_place, .int t_isWrong, .int t_toldGenus, .int t_toldMarks, .ref h_t_toldPowers, .ref h_t_powerPlaces, .int t_isTree, .int t_toldLeaves, .int t_leavesPlace, .int t_toldSplits, .ref h_t_toldTree, .ref h_t_splitPlaces, .ref h_t_layers, .int t_isWhy, .ref h_t_paper, .int t_papered, .ref h_t_held, .ref h_t_numbers, .ref h_t_sizes, .ref h_t_heldLeaves, .ref h_t_items, .ref h_t_kept, .int t_isKept])), (h_t_tree, .inl (cI, 3, .inl a_t_tree))] sz) := by
  refine Met.ofW (cc := cX9_edges) (maxL := 4) (ret := (some .int)) (by decide) rfl ?_
  intro p e s m args below meth c s₁ B hml hv
  obtain ⟨rfl, hsz, hP, hK, hD0⟩ := hv
  have hx := B.exec
  have hb := B.bytes
  have hr := B.returns
  have hts := atoms_spec (ws := wsX9_edges) B.pre
  have hta : ∀ w ∈ wA, w.before ([.ref h_t, .int p0] : List Value).toArray s = true := hta_of hts
  have hown : s.vm.findClass RX9 = some m.cls := findClass_of_methodNamed B.named
  have hlocks := B.notSynchronized
  subst hsz
  have hD := hD0.self (sz := s.heap.size)
  generalize hAe : va_A [(h_t, .inr (8, [.int t_genus, .int t_marks, .ref h_t_powers, .int t_leaves, .int t_splits, .ref h_t_tree, .ref h_t_ahead, .ref h_t_behind, .ref h_t_before, .int t_done, .int t_undone, .ref h_t_rows, .ref h_t_met, .ref h_t_metSizes, .int t_metMany, .int t_treesSeen, .ref h_t_chosen, .ref h_t_tape, .int t_taped, .int t_place, .int t_isWrong, .int t_toldGenus, .int t_toldMarks, .ref h_t_toldPowers, .ref h_t_powerPlaces, .int t_isTree, .int t_toldLeaves, .int t_leavesPlace, .int t_toldSplits, .ref h_t_toldTree, .ref h_t_splitPlaces, .ref h_t_layers, .int t_isWhy, .ref h_t_paper, .int t_papered, .ref h_t_held, .ref h_t_numbers, .ref h_t_sizes, .ref h_t_heldLeaves, .ref h_t_items, .ref h_t_kept, .int t_isKept])), (h_t_tree, .inl (cI, 3, .inl a_t_tree))] s.heap.size = A at hD ⊢
  have hA : ∀ q : Nat, s.heap.size ≤ q → A q := fun q h => by rw [← hAe]; exact Or.inr h
  have hS : va_S A s.heap s.heap [] := va_S.rf
  have hl := lv_entry ([.ref h_t, .int p0]) (n := 4) (Nat.le_of_ble_eq_true rfl)
  rw [lg_entry_eq]
  generalize (lg_sl ([.ref h_t, .int p0]) ++ List.replicate (4 - (lg_sl ([.ref h_t, .int p0])).length) Slot.unset).toArray = ls at hl ⊢
  have hl : lv_has ls 4 [(0, .ref h_t), (1, .int p0)] := hl
  have hinX9 : ∀ w ∈ wsX90, w ∈ wsX9_edges := hin_of in_X9
  have h := hF
  unfold F_X9_edges at h
  refine lv_iload_n hx hb dX9_edges_0 rfl (lv_at hl 1 rfl) ?_
  refine lv_if_ne (tgt := 8) hx hb dX9_edges_1 (by decide) (fun c1 => ?_) (fun c1 => ?_)
  · have h := it_n h c1
    refine lv_iconst (v := (1 : Int32)) hx hb dX9_edges_8 (by decide) ?_
    refine lv_istore_n (lv' := [(2, .int (1 : Int32)), (0, .ref h_t), (1, .int p0)]) hx hb dX9_edges_9 rfl hl (by decide) rfl (fun ls hl => ?_)
    refine lv_iconst (v := (0 : Int32)) hx hb dX9_edges_10 (by decide) ?_
    refine lv_istore_n (lv' := [(3, .int (0 : Int32)), (2, .int (1 : Int32)), (0, .ref h_t), (1, .int p0)]) hx hb dX9_edges_11 rfl hl (by decide) rfl (fun ls hl => ?_)
    have hK_X9_edges_12_35 : ∀  (vK12_35_0 : Int32) (H : Heap) (locs : List Loc) (ls : Array Slot), va_P G vwCl [(h_t, .inr (8, [.int t_genus, .int t_marks, .ref h_t_powers, .int t_leaves, .int t_splits, .ref h_t_tree, .ref h_t_ahead, .ref h_t_behind, .ref h_t_before, .int t_done, .int t_undone, .ref h_t_rows, .ref h_t_met, .ref h_t_metSizes, .int t_metMany, .int t_treesSeen, .ref h_t_chosen, .ref h_t_tape, .int t_taped, .int t_place, .int t_isWrong, .int t_toldGenus, .int t_toldMarks, .ref h_t_toldPowers, .ref h_t_powerPlaces, .int t_isTree, .int t_toldLeaves, .int t_leavesPlace, .int t_toldSplits, .ref h_t_toldTree, .ref h_t_splitPlaces, .ref h_t_layers, .int t_isWhy, .ref h_t_paper, .int t_papered, .ref h_t_held, .ref h_t_numbers, .ref h_t_sizes, .ref h_t_heldLeaves, .ref h_t_items, .ref h_t_kept, .int t_isKept])), (h_t_tree, .inl (cI, 3, .inl a_t_tree))] H → va_D A [(h_t, .inr (8, [.int t_genus, .int t_marks, .ref h_t_powers, .int t_leaves, .int t_splits, .ref h_t_tree, .ref h_t_ahead, .ref h_t_behind, .ref h_t_before, .int t_done, .int t_undone, .ref h_t_rows, .ref h_t_met, .ref h_t_metSizes, .int t_metMany, .int t_treesSeen, .ref h_t_chosen, .ref h_t_tape, .int t_taped, .int t_place, .int t_isWrong, .int t_toldGenus, .int t_toldMarks, .ref h_t_toldPowers, .ref h_t_powerPlaces, .int t_isTree, .int t_toldLeaves, .int t_leavesPlace, .int t_toldSplits, .ref h_t_toldTree, .ref h_t_splitPlaces, .ref h_t_layers, .int t_isWhy, .ref h_t_paper, .int t_papered, .ref h_t_held, .ref h_t_numbers, .ref h_t_sizes, .ref h_t_heldLeaves, .ref h_t_items, .ref h_t_kept, .int t_isKept])), (h_t_tree, .inl (cI, 3, .inl a_t_tree))] → va_S A s.heap H locs → lv_has ls 4 [(2, .int vK12_35_0)] → K_X9_edges_12_35 vK12_35_0 = some r0 → W p l e (headSpec wsX9_edges ({ frames := 2, cells := 0, slots := 0, locals := 45 })).room s m ([.ref h_t, .int p0] : List Value).toArray below meth c H locs 0 0 (MQ below (va_Qi (fun r (_ : Unit) => r = r0 ∧ True) (fun _ t => va_P G vwCl [(h_t, .inr (8, [.int t_genus, .int t_marks, .ref h_t_powers, .int t_leaves, .int t_splits, .ref h_t_tree, .ref h_t_ahead, .ref h_t_behind, .ref h_t_before, .int t_done, .int t_undone, .ref h_t_rows, .ref h_t_met, .ref h_t_metSizes, .int t_metMany, .int t_treesSeen, .ref h_t_chosen, .ref h_t_tape, .int t_taped, .int t_place, .int t_isWrong, .int t_toldGenus, .int t_toldMarks, .ref h_t_toldPowers, .ref h_t_powerPlaces, .int t_isTree, .int t_toldLeaves, .int t_leavesPlace, .int t_toldSplits, .ref h_t_toldTree, .ref h_t_splitPlaces, .ref h_t_layers, .int t_isWhy, .ref h_t_paper, .int t_papered, .ref h_t_held, .ref h_t_numbers, .ref h_t_sizes, .ref h_t_heldLeaves, .ref h_t_items, .ref h_t_kept, .int t_isKept])), (h_t_tree, .inl (cI, 3, .inl a_t_tree))] t.heap) A) ([.ref h_t, .int p0] : List Value).toArray s 0 0 A) (F0 m 35 ls []) := by
      intro vK12_35_0 H locs ls hP hD hS hl h
      unfold K_X9_edges_12_35 at h
      refine lv_iload_n hx hb dX9_edges_35 rfl (lv_at hl 0 rfl) ?_
      have h9 := Option.some.inj h
      have e9 : vK12_35_0 = r0 := congrArg (fun z9 => z9) h9
      rw [← e9]
      exact k_iret hx hb hr hlocks hP hS rfl dX9_edges_36
    have hL12 : ∀ (n12 : Nat) (vL12_0 : Int32) (vL12_1 : Int32) (H : Heap) (locs : List Loc) (ls : Array Slot), va_P G vwCl [(h_t, .inr (8, [.int t_genus, .int t_marks, .ref h_t_powers, .int t_leaves, .int t_splits, .ref h_t_tree, .ref h_t_ahead, .ref h_t_behind, .ref h_t_before, .int t_done, .int t_undone, .ref h_t_rows, .ref h_t_met, .ref h_t_metSizes, .int t_metMany, .int t_treesSeen, .ref h_t_chosen, .ref h_t_tape, .int t_taped, .int t_place, .int t_isWrong, .int t_toldGenus, .int t_toldMarks, .ref h_t_toldPowers, .ref h_t_powerPlaces, .int t_isTree, .int t_toldLeaves, .int t_leavesPlace, .int t_toldSplits, .ref h_t_toldTree, .ref h_t_splitPlaces, .ref h_t_layers, .int t_isWhy, .ref h_t_paper, .int t_papered, .ref h_t_held, .ref h_t_numbers, .ref h_t_sizes, .ref h_t_heldLeaves, .ref h_t_items, .ref h_t_kept, .int t_isKept])), (h_t_tree, .inl (cI, 3, .inl a_t_tree))] H → va_D A [(h_t, .inr (8, [.int t_genus, .int t_marks, .ref h_t_powers, .int t_leaves, .int t_splits, .ref h_t_tree, .ref h_t_ahead, .ref h_t_behind, .ref h_t_before, .int t_done, .int t_undone, .ref h_t_rows, .ref h_t_met, .ref h_t_metSizes, .int t_metMany, .int t_treesSeen, .ref h_t_chosen, .ref h_t_tape, .int t_taped, .int t_place, .int t_isWrong, .int t_toldGenus, .int t_toldMarks, .ref h_t_toldPowers, .ref h_t_powerPlaces, .int t_isTree, .int t_toldLeaves, .int t_leavesPlace, .int t_toldSplits, .ref h_t_toldTree, .ref h_t_splitPlaces, .ref h_t_layers, .int t_isWhy, .ref h_t_paper, .int t_papered, .ref h_t_held, .ref h_t_numbers, .ref h_t_sizes, .ref h_t_heldLeaves, .ref h_t_items, .ref h_t_kept, .int t_isKept])), (h_t_tree, .inl (cI, 3, .inl a_t_tree))] → va_S A s.heap H locs → lv_has ls 4 [(0, .ref h_t), (1, .int p0), (2, .int vL12_0), (3, .int vL12_1)] → wq2 (B_X9_edges_12 t_splits a_t_tree p0 K_X9_edges_12_35) n12 vL12_0 vL12_1 = some r0 → W p l e (headSpec wsX9_edges ({ frames := 2, cells := 0, slots := 0, locals := 45 })).room s m ([.ref h_t, .int p0] : List Value).toArray below meth c H locs 0 0 (MQ below (va_Qi (fun r (_ : Unit) => r = r0 ∧ True) (fun _ t => va_P G vwCl [(h_t, .inr (8, [.int t_genus, .int t_marks, .ref h_t_powers, .int t_leaves, .int t_splits, .ref h_t_tree, .ref h_t_ahead, .ref h_t_behind, .ref h_t_before, .int t_done, .int t_undone, .ref h_t_rows, .ref h_t_met, .ref h_t_metSizes, .int t_metMany, .int t_treesSeen, .ref h_t_chosen, .ref h_t_tape, .int t_taped, .int t_place, .int t_isWrong, .int t_toldGenus, .int t_toldMarks, .ref h_t_toldPowers, .ref h_t_powerPlaces, .int t_isTree, .int t_toldLeaves, .int t_leavesPlace, .int t_toldSplits, .ref h_t_toldTree, .ref h_t_splitPlaces, .ref h_t_layers, .int t_isWhy, .ref h_t_paper, .int t_papered, .ref h_t_held, .ref h_t_numbers, .ref h_t_sizes, .ref h_t_heldLeaves, .ref h_t_items, .ref h_t_kept, .int t_isKept])), (h_t_tree, .inl (cI, 3, .inl a_t_tree))] t.heap) A) ([.ref h_t, .int p0] : List Value).toArray s 0 0 A) (F0 m 12 ls []) := by
      intro n12
      induction n12 with
      | zero => intro vL12_0 vL12_1 H locs ls hP hD hS hl h; exact wq2_0 h
      | succ n12 ih12 =>
        intro vL12_0 vL12_1 H locs ls hP hD hS hl h
        have h := wq2_s h
        unfold B_X9_edges_12 at h
        refine lv_iload_n hx hb dX9_edges_12 rfl (lv_at hl 3 rfl) ?_
        refine lv_aload_n hx hb dX9_edges_13 rfl (lv_at hl 0 rfl) ?_
        refine va_get (D := G) (ci := 8) (v := .int t_splits) (C := RX9) (T := TX9) (N := 42) hx hb hts hinX9 hown hK hP 0 rfl rfl 4 (by decide) (hta _ mw_642) (fun _ h9 => h9) rfl dX9_edges_14 ?_
        refine lv_icmp_ge (tgt := 35) hx hb dX9_edges_17 (by decide) (fun c2 => ?_) (fun c2 => ?_)
        · have h := it_p h c2
          exact hK_X9_edges_12_35 vL12_0 _ _ _ hP hD hS (lv_sub hl [2] rfl) h
        have h := it_n h c2
        refine lv_iload_n hx hb dX9_edges_20 rfl (lv_at hl 2 rfl) ?_
        refine lv_aload_n hx hb dX9_edges_21 rfl (lv_at hl 0 rfl) ?_
        refine lv_iload_n hx hb dX9_edges_22 rfl (lv_at hl 3 rfl) ?_
        refine lv_iload_n hx hb dX9_edges_23 rfl (lv_at hl 1 rfl) ?_
        obtain ⟨x3, hx3, h⟩ := bd_e h
        try dsimp only at h
        refine k_ViU (n := 2) (As := [.int vL12_1, .int p0]) (rest := [.int vL12_0]) hx hb hml hown hts (c_X9_isBelow l G cI cJ cD cH H.size h_t h_t_tree h_t_powers h_t_ahead h_t_behind h_t_before h_t_rows h_t_met h_t_metSizes h_t_chosen h_t_tape h_t_toldPowers h_t_powerPlaces h_t_toldTree h_t_splitPlaces h_t_layers h_t_paper h_t_held h_t_numbers h_t_sizes h_t_heldLeaves h_t_items h_t_kept t_genus t_marks t_leaves t_splits t_done t_undone t_metMany t_treesSeen t_taped t_place t_isWrong t_toldGenus t_toldMarks t_isTree t_toldLeaves t_leavesPlace t_toldSplits t_isWhy t_papered t_isKept a_t_tree vL12_1 p0 x3 hx3) gX9_edges_X9_isBelow rfl rfl rfl (by decide +kernel) ⟨by first | exact Nat.le_of_ble_eq_true rfl | (simp only [headSpec]; omega), by first | exact Nat.le_of_ble_eq_true rfl | (simp only [headSpec]; omega)⟩ hK hP hD hS hA [0, 1] (by decide) rfl (ci := 8) rfl rfl rfl rfl rfl hl.1 (Nat.le_of_ble_eq_true rfl) dX9_edges_24 ⟨Nat.zero_le _, Nat.zero_le _⟩ (fun hp3 H locs hP hS => ?_)
        refine lv_iadd hx hb dX9_edges_27 ?_
        refine lv_istore_n (lv' := [(2, .int (vL12_0 + x3)), (0, .ref h_t), (1, .int p0), (3, .int vL12_1)]) hx hb dX9_edges_28 rfl hl (by decide) rfl (fun ls hl => ?_)
        refine lv_iinc (v := (vL12_1 + (1 : Int32))) (lv' := [(3, .int (vL12_1 + (1 : Int32))), (2, .int (vL12_0 + x3)), (0, .ref h_t), (1, .int p0)]) hx hb dX9_edges_29 hl (k := 3) rfl (by first | rfl | decide) (by decide) rfl (fun ls hl => ?_)
        refine lv_goto (tgt := 12) hx hb dX9_edges_32 (by decide) ?_
        exact ih12 (vL12_0 + x3) (vL12_1 + (1 : Int32)) _ _ _ hP hD hS (lv_sub hl [2, 3, 1, 0] rfl) h
    exact hL12 FU (1 : Int32) (0 : Int32) _ _ _ hP hD hS (lv_sub hl [2, 3, 1, 0] rfl) h
  have h := it_p h c1
  refine lv_iconst (v := (0 : Int32)) hx hb dX9_edges_4 (by decide) ?_
  refine lv_goto (tgt := 9) hx hb dX9_edges_5 (by decide) ?_
  refine lv_istore_n (lv' := [(2, .int (0 : Int32)), (0, .ref h_t), (1, .int p0)]) hx hb dX9_edges_9 rfl hl (by decide) rfl (fun ls hl => ?_)
  refine lv_iconst (v := (0 : Int32)) hx hb dX9_edges_10 (by decide) ?_
  refine lv_istore_n (lv' := [(3, .int (0 : Int32)), (2, .int (0 : Int32)), (0, .ref h_t), (1, .int p0)]) hx hb dX9_edges_11 rfl hl (by decide) rfl (fun ls hl => ?_)
  have hK_X9_edges_12_35x1 : ∀  (vK12_35_0 : Int32) (H : Heap) (locs : List Loc) (ls : Array Slot), va_P G vwCl [(h_t, .inr (8, [.int t_genus, .int t_marks, .ref h_t_powers, .int t_leaves, .int t_splits, .ref h_t_tree, .ref h_t_ahead, .ref h_t_behind, .ref h_t_before, .int t_done, .int t_undone, .ref h_t_rows, .ref h_t_met, .ref h_t_metSizes, .int t_metMany, .int t_treesSeen, .ref h_t_chosen, .ref h_t_tape, .int t_taped, .int t_place, .int t_isWrong, .int t_toldGenus, .int t_toldMarks, .ref h_t_toldPowers, .ref h_t_powerPlaces, .int t_isTree, .int t_toldLeaves, .int t_leavesPlace, .int t_toldSplits, .ref h_t_toldTree, .ref h_t_splitPlaces, .ref h_t_layers, .int t_isWhy, .ref h_t_paper, .int t_papered, .ref h_t_held, .ref h_t_numbers, .ref h_t_sizes, .ref h_t_heldLeaves, .ref h_t_items, .ref h_t_kept, .int t_isKept])), (h_t_tree, .inl (cI, 3, .inl a_t_tree))] H → va_D A [(h_t, .inr (8, [.int t_genus, .int t_marks, .ref h_t_powers, .int t_leaves, .int t_splits, .ref h_t_tree, .ref h_t_ahead, .ref h_t_behind, .ref h_t_before, .int t_done, .int t_undone, .ref h_t_rows, .ref h_t_met, .ref h_t_metSizes, .int t_metMany, .int t_treesSeen, .ref h_t_chosen, .ref h_t_tape, .int t_taped, .int t_place, .int t_isWrong, .int t_toldGenus, .int t_toldMarks, .ref h_t_toldPowers, .ref h_t_powerPlaces, .int t_isTree, .int t_toldLeaves, .int t_leavesPlace, .int t_toldSplits, .ref h_t_toldTree, .ref h_t_splitPlaces, .ref h_t_layers, .int t_isWhy, .ref h_t_paper, .int t_papered, .ref h_t_held, .ref h_t_numbers, .ref h_t_sizes, .ref h_t_heldLeaves, .ref h_t_items, .ref h_t_kept, .int t_isKept])), (h_t_tree, .inl (cI, 3, .inl a_t_tree))] → va_S A s.heap H locs → lv_has ls 4 [(2, .int vK12_35_0)] → K_X9_edges_12_35x1 vK12_35_0 = some r0 → W p l e (headSpec wsX9_edges ({ frames := 2, cells := 0, slots := 0, locals := 45 })).room s m ([.ref h_t, .int p0] : List Value).toArray below meth c H locs 0 0 (MQ below (va_Qi (fun r (_ : Unit) => r = r0 ∧ True) (fun _ t => va_P G vwCl [(h_t, .inr (8, [.int t_genus, .int t_marks, .ref h_t_powers, .int t_leaves, .int t_splits, .ref h_t_tree, .ref h_t_ahead, .ref h_t_behind, .ref h_t_before, .int t_done, .int t_undone, .ref h_t_rows, .ref h_t_met, .ref h_t_metSizes, .int t_metMany, .int t_treesSeen, .ref h_t_chosen, .ref h_t_tape, .int t_taped, .int t_place, .int t_isWrong, .int t_toldGenus, .int t_toldMarks, .ref h_t_toldPowers, .ref h_t_powerPlaces, .int t_isTree, .int t_toldLeaves, .int t_leavesPlace, .int t_toldSplits, .ref h_t_toldTree, .ref h_t_splitPlaces, .ref h_t_layers, .int t_isWhy, .ref h_t_paper, .int t_papered, .ref h_t_held, .ref h_t_numbers, .ref h_t_sizes, .ref h_t_heldLeaves, .ref h_t_items, .ref h_t_kept, .int t_isKept])), (h_t_tree, .inl (cI, 3, .inl a_t_tree))] t.heap) A) ([.ref h_t, .int p0] : List Value).toArray s 0 0 A) (F0 m 35 ls []) := by
    intro vK12_35_0 H locs ls hP hD hS hl h
    unfold K_X9_edges_12_35x1 at h
    refine lv_iload_n hx hb dX9_edges_35 rfl (lv_at hl 0 rfl) ?_
    have h9 := Option.some.inj h
    have e9 : vK12_35_0 = r0 := congrArg (fun z9 => z9) h9
    rw [← e9]
    exact k_iret hx hb hr hlocks hP hS rfl dX9_edges_36
  have hL12x1 : ∀ (n12 : Nat) (vL12_0 : Int32) (vL12_1 : Int32) (H : Heap) (locs : List Loc) (ls : Array Slot), va_P G vwCl [(h_t, .inr (8, [.int t_genus, .int t_marks, .ref h_t_powers, .int t_leaves, .int t_splits, .ref h_t_tree, .ref h_t_ahead, .ref h_t_behind, .ref h_t_before, .int t_done, .int t_undone, .ref h_t_rows, .ref h_t_met, .ref h_t_metSizes, .int t_metMany, .int t_treesSeen, .ref h_t_chosen, .ref h_t_tape, .int t_taped, .int t_place, .int t_isWrong, .int t_toldGenus, .int t_toldMarks, .ref h_t_toldPowers, .ref h_t_powerPlaces, .int t_isTree, .int t_toldLeaves, .int t_leavesPlace, .int t_toldSplits, .ref h_t_toldTree, .ref h_t_splitPlaces, .ref h_t_layers, .int t_isWhy, .ref h_t_paper, .int t_papered, .ref h_t_held, .ref h_t_numbers, .ref h_t_sizes, .ref h_t_heldLeaves, .ref h_t_items, .ref h_t_kept, .int t_isKept])), (h_t_tree, .inl (cI, 3, .inl a_t_tree))] H → va_D A [(h_t, .inr (8, [.int t_genus, .int t_marks, .ref h_t_powers, .int t_leaves, .int t_splits, .ref h_t_tree, .ref h_t_ahead, .ref h_t_behind, .ref h_t_before, .int t_done, .int t_undone, .ref h_t_rows, .ref h_t_met, .ref h_t_metSizes, .int t_metMany, .int t_treesSeen, .ref h_t_chosen, .ref h_t_tape, .int t_taped, .int t_place, .int t_isWrong, .int t_toldGenus, .int t_toldMarks, .ref h_t_toldPowers, .ref h_t_powerPlaces, .int t_isTree, .int t_toldLeaves, .int t_leavesPlace, .int t_toldSplits, .ref h_t_toldTree, .ref h_t_splitPlaces, .ref h_t_layers, .int t_isWhy, .ref h_t_paper, .int t_papered, .ref h_t_held, .ref h_t_numbers, .ref h_t_sizes, .ref h_t_heldLeaves, .ref h_t_items, .ref h_t_kept, .int t_isKept])), (h_t_tree, .inl (cI, 3, .inl a_t_tree))] → va_S A s.heap H locs → lv_has ls 4 [(0, .ref h_t), (1, .int p0), (2, .int vL12_0), (3, .int vL12_1)] → wq2 (B_X9_edges_12x1 t_splits a_t_tree p0 K_X9_edges_12_35x1) n12 vL12_0 vL12_1 = some r0 → W p l e (headSpec wsX9_edges ({ frames := 2, cells := 0, slots := 0, locals := 45 })).room s m ([.ref h_t, .int p0] : List Value).toArray below meth c H locs 0 0 (MQ below (va_Qi (fun r (_ : Unit) => r = r0 ∧ True) (fun _ t => va_P G vwCl [(h_t, .inr (8, [.int t_genus, .int t_marks, .ref h_t_powers, .int t_leaves, .int t_splits, .ref h_t_tree, .ref h_t_ahead, .ref h_t_behind, .ref h_t_before, .int t_done, .int t_undone, .ref h_t_rows, .ref h_t_met, .ref h_t_metSizes, .int t_metMany, .int t_treesSeen, .ref h_t_chosen, .ref h_t_tape, .int t_taped, .int t_place, .int t_isWrong, .int t_toldGenus, .int t_toldMarks, .ref h_t_toldPowers, .ref h_t_powerPlaces, .int t_isTree, .int t_toldLeaves, .int t_leavesPlace, .int t_toldSplits, .ref h_t_toldTree, .ref h_t_splitPlaces, .ref h_t_layers, .int t_isWhy, .ref h_t_paper, .int t_papered, .ref h_t_held, .ref h_t_numbers, .ref h_t_sizes, .ref h_t_heldLeaves, .ref h_t_items, .ref h_t_kept, .int t_isKept])), (h_t_tree, .inl (cI, 3, .inl a_t_tree))] t.heap) A) ([.ref h_t, .int p0] : List Value).toArray s 0 0 A) (F0 m 12 ls []) := by
    intro n12
    induction n12 with
    | zero => intro vL12_0 vL12_1 H locs ls hP hD hS hl h; exact wq2_0 h
    | succ n12 ih12 =>
      intro vL12_0 vL12_1 H locs ls hP hD hS hl h
      have h := wq2_s h
      unfold B_X9_edges_12x1 at h
      refine lv_iload_n hx hb dX9_edges_12 rfl (lv_at hl 3 rfl) ?_
      refine lv_aload_n hx hb dX9_edges_13 rfl (lv_at hl 0 rfl) ?_
      refine va_get (D := G) (ci := 8) (v := .int t_splits) (C := RX9) (T := TX9) (N := 42) hx hb hts hinX9 hown hK hP 0 rfl rfl 4 (by decide) (hta _ mw_642) (fun _ h9 => h9) rfl dX9_edges_14 ?_
      refine lv_icmp_ge (tgt := 35) hx hb dX9_edges_17 (by decide) (fun c4 => ?_) (fun c4 => ?_)
      · have h := it_p h c4
        exact hK_X9_edges_12_35x1 vL12_0 _ _ _ hP hD hS (lv_sub hl [2] rfl) h
      have h := it_n h c4
      refine lv_iload_n hx hb dX9_edges_20 rfl (lv_at hl 2 rfl) ?_
      refine lv_aload_n hx hb dX9_edges_21 rfl (lv_at hl 0 rfl) ?_
      refine lv_iload_n hx hb dX9_edges_22 rfl (lv_at hl 3 rfl) ?_
      refine lv_iload_n hx hb dX9_edges_23 rfl (lv_at hl 1 rfl) ?_
      obtain ⟨x5, hx5, h⟩ := bd_e h
      try dsimp only at h
      refine k_ViU (n := 2) (As := [.int vL12_1, .int p0]) (rest := [.int vL12_0]) hx hb hml hown hts (c_X9_isBelow l G cI cJ cD cH H.size h_t h_t_tree h_t_powers h_t_ahead h_t_behind h_t_before h_t_rows h_t_met h_t_metSizes h_t_chosen h_t_tape h_t_toldPowers h_t_powerPlaces h_t_toldTree h_t_splitPlaces h_t_layers h_t_paper h_t_held h_t_numbers h_t_sizes h_t_heldLeaves h_t_items h_t_kept t_genus t_marks t_leaves t_splits t_done t_undone t_metMany t_treesSeen t_taped t_place t_isWrong t_toldGenus t_toldMarks t_isTree t_toldLeaves t_leavesPlace t_toldSplits t_isWhy t_papered t_isKept a_t_tree vL12_1 p0 x5 hx5) gX9_edges_X9_isBelow rfl rfl rfl (by decide +kernel) ⟨by first | exact Nat.le_of_ble_eq_true rfl | (simp only [headSpec]; omega), by first | exact Nat.le_of_ble_eq_true rfl | (simp only [headSpec]; omega)⟩ hK hP hD hS hA [0, 1] (by decide) rfl (ci := 8) rfl rfl rfl rfl rfl hl.1 (Nat.le_of_ble_eq_true rfl) dX9_edges_24 ⟨Nat.zero_le _, Nat.zero_le _⟩ (fun hp5 H locs hP hS => ?_)
      refine lv_iadd hx hb dX9_edges_27 ?_
      refine lv_istore_n (lv' := [(2, .int (vL12_0 + x5)), (0, .ref h_t), (1, .int p0), (3, .int vL12_1)]) hx hb dX9_edges_28 rfl hl (by decide) rfl (fun ls hl => ?_)
      refine lv_iinc (v := (vL12_1 + (1 : Int32))) (lv' := [(3, .int (vL12_1 + (1 : Int32))), (2, .int (vL12_0 + x5)), (0, .ref h_t), (1, .int p0)]) hx hb dX9_edges_29 hl (k := 3) rfl (by first | rfl | decide) (by decide) rfl (fun ls hl => ?_)
      refine lv_goto (tgt := 12) hx hb dX9_edges_32 (by decide) ?_
      exact ih12 (vL12_0 + x5) (vL12_1 + (1 : Int32)) _ _ _ hP hD hS (lv_sub hl [2, 3, 1, 0] rfl) h
  exact hL12x1 FU (0 : Int32) (0 : Int32) _ _ _ hP hD hS (lv_sub hl [2, 3, 1, 0] rfl) h

/-! X9_at -/
set_option maxHeartbeats 4000000 in
set_option maxRecDepth 100000 in
theorem c_X9_at (l : Launch) (G : va_G) (cI cJ cD cH : ClassId) (sz : Nat) (h_t : Nat) (h_t_tree : Nat) (h_t_powers : Nat) (h_t_ahead : Nat) (h_t_behind : Nat) (h_t_before : Nat) (h_t_rows : Nat) (h_t_met : Nat) (h_t_metSizes : Nat) (h_t_chosen : Nat) (h_t_tape : Nat) (h_t_toldPowers : Nat) (h_t_powerPlaces : Nat) (h_t_toldTree : Nat) (h_t_splitPlaces : Nat) (h_t_layers : Nat) (h_t_paper : Nat) (h_t_held : Nat) (h_t_numbers : Nat) (h_t_sizes : Nat) (h_t_heldLeaves : Nat) (h_t_items : Nat) (h_t_kept : Nat) (t_genus : Int32) (t_marks : Int32) (t_leaves : Int32) (t_splits : Int32) (t_done : Int32) (t_undone : Int32) (t_metMany : Int32) (t_treesSeen : Int32) (t_taped : Int32) (t_place : Int32) (t_isWrong : Int32) (t_toldGenus : Int32) (t_toldMarks : Int32) (t_isTree : Int32) (t_toldLeaves : Int32) (t_leavesPlace : Int32) (t_toldSplits : Int32) (t_isWhy : Int32) (t_papered : Int32) (t_isKept : Int32) (a_t_tree : Nat → Int32) (p0 : Int32) (r0 : Int32) (hF : F_X9_at t_leaves t_splits a_t_tree p0 = some r0) : Met l yX9_at wsX9_at ({ frames := 2, cells := 0, slots := 0, locals := 45 }) (k_pre G (k_T cI cJ cD cH) [(h_t, .inr (8, [.int t_genus, .int t_marks, .ref h_t_powers, .int t_leaves, .int t_splits, .ref h_t_tree, .ref h_t_ahead, .ref h_t_behind, .ref h_t_before, .int t_done, .int t_undone, .ref h_t_rows, .ref h_t_met, .ref h_t_metSizes, .int t_metMany, .int t_treesSeen, .ref h_t_chosen, .ref h_t_tape, .int t_taped, .int t_place, .int t_isWrong, .int t_toldGenus, .int t_toldMarks, .ref h_t_toldPowers, .ref h_t_powerPlaces, .int t_isTree, .int t_toldLeaves, .int t_leavesPlace, .int t_toldSplits, .ref h_t_toldTree, .ref h_t_splitPlaces, .ref h_t_layers, .int t_isWhy, .ref h_t_paper, .int t_papered, .ref h_t_held, .ref h_t_numbers, .ref h_t_sizes, .ref h_t_heldLeaves, .ref h_t_items, .ref h_t_kept, .int t_isKept])), (h_t_tree, .inl (cI, 3, .inl a_t_tree))] sz [.ref h_t, .int p0]) (va_Qi (fun r (_ : Unit) => r = r0 ∧ True) (fun _ t => va_P G vwCl [(h_t, .inr (8, [.int t_genus, .int t_marks, .ref h_t_powers, .int t_leaves, .int t_splits, .ref h_t_tree, .ref h_t_ahead, .ref h_t_behind, .ref h_t_before, .int t_done, .int t_undone, .ref h_t_rows, .ref h_t_met, .ref h_t_metSizes, .int t_metMany, .int t_treesSeen, .ref h_t_chosen, .ref h_t_tape, .int t_taped, .int t_place, .int t_isWrong, .int t_toldGenus, .int t_toldMarks, .ref h_t_toldPowers, .ref h_t_powerPlaces, .int t_isTree, .int t_toldLeaves, .int t_leavesPlace, .int t_toldSplits, .ref h_t_toldTree, .ref h_t_splitPlaces, .ref h_t_layers, .int t_isWhy, .ref h_t_paper, .int t_papered, .ref h_t_held, .ref h_t_numbers, .ref h_t_sizes, .ref h_t_heldLeaves, .ref h_t_items, .ref h_t_kept, .int t_isKept])), (h_t_tree, .inl (cI, 3, .inl a_t_tree))] t.heap) (va_A [(h_t, .inr (8, [.int t_genus, .int t_marks, .ref h_t_powers, .int t_leaves, .int t_splits, .ref h_t_tree, .ref h_t_ahead, .ref h_t_behind, .ref h_t_before, .int t_done, .int t_undone, .ref h_t_rows, .ref h_t_met, .ref h_t_metSizes, .int t_metMany, .int t_treesSeen, .ref h_t_chosen, .ref h_t_tape, .int t_taped, .int t_place, .int t_isWrong, .int t_toldGenus, .int t_toldMarks, .ref h_t_toldPowers, .ref h_t_powerPlaces, .int t_isTree, .int t_toldLeaves, .int t_leavesPlace, .int t_toldSplits, .ref h_t_toldTree, .ref h_t_splitPlaces, .ref h_t_layers, .int t_isWhy, .ref h_t_paper, .int t_papered, .ref h_t_held, .ref h_t_numbers, .ref h_t_sizes, .ref h_t_heldLeaves, .ref h_t_items, .ref h_t_kept, .int t_isKept])), (h_t_tree, .inl (cI, 3, .inl a_t_tree))] sz)) 0 0 (va_A [(h_t, .inr (8, [.int t_genus, .int t_marks, .ref h_t_powers, .int t_leaves, .int t_splits, .ref h_t_tree, .ref h_t_ahead, .ref h_t_behind, .ref h_t_before, .int t_done, .int t_undone, .ref h_t_rows, .ref h_t_met, .ref h_t_metSizes, .int t_metMany, .int t_treesSeen, .ref h_t_chosen, .ref h_t_tape, .int t_taped, .int t_place, .int t_isWrong, .int t_toldGenus, .int t_toldMarks, .ref h_t_toldPowers, .ref h_t_powerPlaces, .int t_isTree, .int t_toldLeaves, .int t_leavesPlace, .int t_toldSplits, .ref h_t_toldTree, .ref h_t_splitPlaces, .ref h_t_layers, .int t_isWhy, .ref h_t_paper, .int t_papered, .ref h_t_held, .ref h_t_numbers, .ref h_t_sizes, .ref h_t_heldLeaves, .ref h_t_items, .ref h_t_kept, .int t_isKept])), (h_t_tree, .inl (cI, 3, .inl a_t_tree))] sz) := by
  refine Met.ofW (cc := cX9_at) (maxL := 4) (ret := (some .int)) (by decide) rfl ?_
  intro p e s m args below meth c s₁ B hml hv
  obtain ⟨rfl, hsz, hP, hK, hD0⟩ := hv
  have hx := B.exec
  have hb := B.bytes
  have hr := B.returns
  have hts := atoms_spec (ws := wsX9_at) B.pre
  have hta : ∀ w ∈ wA, w.before ([.ref h_t, .int p0] : List Value).toArray s = true := hta_of hts
  have hown : s.vm.findClass RX9 = some m.cls := findClass_of_methodNamed B.named
  have hlocks := B.notSynchronized
  subst hsz
  have hD := hD0.self (sz := s.heap.size)
  generalize hAe : va_A [(h_t, .inr (8, [.int t_genus, .int t_marks, .ref h_t_powers, .int t_leaves, .int t_splits, .ref h_t_tree, .ref h_t_ahead, .ref h_t_behind, .ref h_t_before, .int t_done, .int t_undone, .ref h_t_rows, .ref h_t_met, .ref h_t_metSizes, .int t_metMany, .int t_treesSeen, .ref h_t_chosen, .ref h_t_tape, .int t_taped, .int t_place, .int t_isWrong, .int t_toldGenus, .int t_toldMarks, .ref h_t_toldPowers, .ref h_t_powerPlaces, .int t_isTree, .int t_toldLeaves, .int t_leavesPlace, .int t_toldSplits, .ref h_t_toldTree, .ref h_t_splitPlaces, .ref h_t_layers, .int t_isWhy, .ref h_t_paper, .int t_papered, .ref h_t_held, .ref h_t_numbers, .ref h_t_sizes, .ref h_t_heldLeaves, .ref h_t_items, .ref h_t_kept, .int t_isKept])), (h_t_tree, .inl (cI, 3, .inl a_t_tree))] s.heap.size = A at hD ⊢
  have hA : ∀ q : Nat, s.heap.size ≤ q → A q := fun q h => by rw [← hAe]; exact Or.inr h
  have hS : va_S A s.heap s.heap [] := va_S.rf
  have hl := lv_entry ([.ref h_t, .int p0]) (n := 4) (Nat.le_of_ble_eq_true rfl)
  rw [lg_entry_eq]
  generalize (lg_sl ([.ref h_t, .int p0]) ++ List.replicate (4 - (lg_sl ([.ref h_t, .int p0])).length) Slot.unset).toArray = ls at hl ⊢
  have hl : lv_has ls 4 [(0, .ref h_t), (1, .int p0)] := hl
  have hinX9 : ∀ w ∈ wsX90, w ∈ wsX9_at := hin_of in_X9
  have h := hF
  unfold F_X9_at at h
  refine lv_iload_n hx hb dX9_at_0 rfl (lv_at hl 1 rfl) ?_
  refine lv_if_ne (tgt := 15) hx hb dX9_at_1 (by decide) (fun c1 => ?_) (fun c1 => ?_)
  · have h := it_n h c1
    refine lv_iload_n hx hb dX9_at_15 rfl (lv_at hl 1 rfl) ?_
    refine lv_istore_n (lv' := [(2, .int p0), (0, .ref h_t), (1, .int p0)]) hx hb dX9_at_16 rfl hl (by decide) rfl (fun ls hl => ?_)
    refine lv_iconst (v := (0 : Int32)) hx hb dX9_at_17 (by decide) ?_
    refine lv_istore_n (lv' := [(3, .int (0 : Int32)), (2, .int p0), (0, .ref h_t), (1, .int p0)]) hx hb dX9_at_18 rfl hl (by decide) rfl (fun ls hl => ?_)
    have hK_X9_at_19_58 : ∀  (vK19_58_0 : Int32) (H : Heap) (locs : List Loc) (ls : Array Slot), va_P G vwCl [(h_t, .inr (8, [.int t_genus, .int t_marks, .ref h_t_powers, .int t_leaves, .int t_splits, .ref h_t_tree, .ref h_t_ahead, .ref h_t_behind, .ref h_t_before, .int t_done, .int t_undone, .ref h_t_rows, .ref h_t_met, .ref h_t_metSizes, .int t_metMany, .int t_treesSeen, .ref h_t_chosen, .ref h_t_tape, .int t_taped, .int t_place, .int t_isWrong, .int t_toldGenus, .int t_toldMarks, .ref h_t_toldPowers, .ref h_t_powerPlaces, .int t_isTree, .int t_toldLeaves, .int t_leavesPlace, .int t_toldSplits, .ref h_t_toldTree, .ref h_t_splitPlaces, .ref h_t_layers, .int t_isWhy, .ref h_t_paper, .int t_papered, .ref h_t_held, .ref h_t_numbers, .ref h_t_sizes, .ref h_t_heldLeaves, .ref h_t_items, .ref h_t_kept, .int t_isKept])), (h_t_tree, .inl (cI, 3, .inl a_t_tree))] H → va_D A [(h_t, .inr (8, [.int t_genus, .int t_marks, .ref h_t_powers, .int t_leaves, .int t_splits, .ref h_t_tree, .ref h_t_ahead, .ref h_t_behind, .ref h_t_before, .int t_done, .int t_undone, .ref h_t_rows, .ref h_t_met, .ref h_t_metSizes, .int t_metMany, .int t_treesSeen, .ref h_t_chosen, .ref h_t_tape, .int t_taped, .int t_place, .int t_isWrong, .int t_toldGenus, .int t_toldMarks, .ref h_t_toldPowers, .ref h_t_powerPlaces, .int t_isTree, .int t_toldLeaves, .int t_leavesPlace, .int t_toldSplits, .ref h_t_toldTree, .ref h_t_splitPlaces, .ref h_t_layers, .int t_isWhy, .ref h_t_paper, .int t_papered, .ref h_t_held, .ref h_t_numbers, .ref h_t_sizes, .ref h_t_heldLeaves, .ref h_t_items, .ref h_t_kept, .int t_isKept])), (h_t_tree, .inl (cI, 3, .inl a_t_tree))] → va_S A s.heap H locs → lv_has ls 4 [(2, .int vK19_58_0)] → K_X9_at_19_58 vK19_58_0 = some r0 → W p l e (headSpec wsX9_at ({ frames := 2, cells := 0, slots := 0, locals := 45 })).room s m ([.ref h_t, .int p0] : List Value).toArray below meth c H locs 0 0 (MQ below (va_Qi (fun r (_ : Unit) => r = r0 ∧ True) (fun _ t => va_P G vwCl [(h_t, .inr (8, [.int t_genus, .int t_marks, .ref h_t_powers, .int t_leaves, .int t_splits, .ref h_t_tree, .ref h_t_ahead, .ref h_t_behind, .ref h_t_before, .int t_done, .int t_undone, .ref h_t_rows, .ref h_t_met, .ref h_t_metSizes, .int t_metMany, .int t_treesSeen, .ref h_t_chosen, .ref h_t_tape, .int t_taped, .int t_place, .int t_isWrong, .int t_toldGenus, .int t_toldMarks, .ref h_t_toldPowers, .ref h_t_powerPlaces, .int t_isTree, .int t_toldLeaves, .int t_leavesPlace, .int t_toldSplits, .ref h_t_toldTree, .ref h_t_splitPlaces, .ref h_t_layers, .int t_isWhy, .ref h_t_paper, .int t_papered, .ref h_t_held, .ref h_t_numbers, .ref h_t_sizes, .ref h_t_heldLeaves, .ref h_t_items, .ref h_t_kept, .int t_isKept])), (h_t_tree, .inl (cI, 3, .inl a_t_tree))] t.heap) A) ([.ref h_t, .int p0] : List Value).toArray s 0 0 A) (F0 m 58 ls []) := by
      intro vK19_58_0 H locs ls hP hD hS hl h
      unfold K_X9_at_19_58 at h
      refine lv_iload_n hx hb dX9_at_58 rfl (lv_at hl 0 rfl) ?_
      have h9 := Option.some.inj h
      have e9 : vK19_58_0 = r0 := congrArg (fun z9 => z9) h9
      rw [← e9]
      exact k_iret hx hb hr hlocks hP hS rfl dX9_at_59
    have hL19 : ∀ (n19 : Nat) (vL19_0 : Int32) (vL19_1 : Int32) (H : Heap) (locs : List Loc) (ls : Array Slot), va_P G vwCl [(h_t, .inr (8, [.int t_genus, .int t_marks, .ref h_t_powers, .int t_leaves, .int t_splits, .ref h_t_tree, .ref h_t_ahead, .ref h_t_behind, .ref h_t_before, .int t_done, .int t_undone, .ref h_t_rows, .ref h_t_met, .ref h_t_metSizes, .int t_metMany, .int t_treesSeen, .ref h_t_chosen, .ref h_t_tape, .int t_taped, .int t_place, .int t_isWrong, .int t_toldGenus, .int t_toldMarks, .ref h_t_toldPowers, .ref h_t_powerPlaces, .int t_isTree, .int t_toldLeaves, .int t_leavesPlace, .int t_toldSplits, .ref h_t_toldTree, .ref h_t_splitPlaces, .ref h_t_layers, .int t_isWhy, .ref h_t_paper, .int t_papered, .ref h_t_held, .ref h_t_numbers, .ref h_t_sizes, .ref h_t_heldLeaves, .ref h_t_items, .ref h_t_kept, .int t_isKept])), (h_t_tree, .inl (cI, 3, .inl a_t_tree))] H → va_D A [(h_t, .inr (8, [.int t_genus, .int t_marks, .ref h_t_powers, .int t_leaves, .int t_splits, .ref h_t_tree, .ref h_t_ahead, .ref h_t_behind, .ref h_t_before, .int t_done, .int t_undone, .ref h_t_rows, .ref h_t_met, .ref h_t_metSizes, .int t_metMany, .int t_treesSeen, .ref h_t_chosen, .ref h_t_tape, .int t_taped, .int t_place, .int t_isWrong, .int t_toldGenus, .int t_toldMarks, .ref h_t_toldPowers, .ref h_t_powerPlaces, .int t_isTree, .int t_toldLeaves, .int t_leavesPlace, .int t_toldSplits, .ref h_t_toldTree, .ref h_t_splitPlaces, .ref h_t_layers, .int t_isWhy, .ref h_t_paper, .int t_papered, .ref h_t_held, .ref h_t_numbers, .ref h_t_sizes, .ref h_t_heldLeaves, .ref h_t_items, .ref h_t_kept, .int t_isKept])), (h_t_tree, .inl (cI, 3, .inl a_t_tree))] → va_S A s.heap H locs → lv_has ls 4 [(0, .ref h_t), (1, .int p0), (2, .int vL19_0), (3, .int vL19_1)] → wq2 (B_X9_at_19 t_splits a_t_tree p0 K_X9_at_19_58) n19 vL19_0 vL19_1 = some r0 → W p l e (headSpec wsX9_at ({ frames := 2, cells := 0, slots := 0, locals := 45 })).room s m ([.ref h_t, .int p0] : List Value).toArray below meth c H locs 0 0 (MQ below (va_Qi (fun r (_ : Unit) => r = r0 ∧ True) (fun _ t => va_P G vwCl [(h_t, .inr (8, [.int t_genus, .int t_marks, .ref h_t_powers, .int t_leaves, .int t_splits, .ref h_t_tree, .ref h_t_ahead, .ref h_t_behind, .ref h_t_before, .int t_done, .int t_undone, .ref h_t_rows, .ref h_t_met, .ref h_t_metSizes, .int t_metMany, .int t_treesSeen, .ref h_t_chosen, .ref h_t_tape, .int t_taped, .int t_place, .int t_isWrong, .int t_toldGenus, .int t_toldMarks, .ref h_t_toldPowers, .ref h_t_powerPlaces, .int t_isTree, .int t_toldLeaves, .int t_leavesPlace, .int t_toldSplits, .ref h_t_toldTree, .ref h_t_splitPlaces, .ref h_t_layers, .int t_isWhy, .ref h_t_paper, .int t_papered, .ref h_t_held, .ref h_t_numbers, .ref h_t_sizes, .ref h_t_heldLeaves, .ref h_t_items, .ref h_t_kept, .int t_isKept])), (h_t_tree, .inl (cI, 3, .inl a_t_tree))] t.heap) A) ([.ref h_t, .int p0] : List Value).toArray s 0 0 A) (F0 m 19 ls []) := by
      intro n19
      induction n19 with
      | zero => intro vL19_0 vL19_1 H locs ls hP hD hS hl h; exact wq2_0 h
      | succ n19 ih19 =>
        intro vL19_0 vL19_1 H locs ls hP hD hS hl h
        have h := wq2_s h
        unfold B_X9_at_19 at h
        refine lv_iload_n hx hb dX9_at_19 rfl (lv_at hl 3 rfl) ?_
        refine lv_aload_n hx hb dX9_at_20 rfl (lv_at hl 0 rfl) ?_
        refine va_get (D := G) (ci := 8) (v := .int t_splits) (C := RX9) (T := TX9) (N := 42) hx hb hts hinX9 hown hK hP 0 rfl rfl 4 (by decide) (hta _ mw_642) (fun _ h9 => h9) rfl dX9_at_21 ?_
        refine lv_icmp_ge (tgt := 58) hx hb dX9_at_24 (by decide) (fun c2 => ?_) (fun c2 => ?_)
        · have h := it_p h c2
          exact hK_X9_at_19_58 vL19_0 _ _ _ hP hD hS (lv_sub hl [2] rfl) h
        have h := it_n h c2
        refine lv_iload_n hx hb dX9_at_27 rfl (lv_at hl 2 rfl) ?_
        refine lv_aload_n hx hb dX9_at_28 rfl (lv_at hl 0 rfl) ?_
        refine lv_iload_n hx hb dX9_at_29 rfl (lv_at hl 3 rfl) ?_
        refine lv_iload_n hx hb dX9_at_30 rfl (lv_at hl 1 rfl) ?_
        obtain ⟨x3, hx3, h⟩ := bd_e h
        try dsimp only at h
        refine k_ViU (n := 2) (As := [.int vL19_1, .int p0]) (rest := [.int vL19_0]) hx hb hml hown hts (c_X9_isBelow l G cI cJ cD cH H.size h_t h_t_tree h_t_powers h_t_ahead h_t_behind h_t_before h_t_rows h_t_met h_t_metSizes h_t_chosen h_t_tape h_t_toldPowers h_t_powerPlaces h_t_toldTree h_t_splitPlaces h_t_layers h_t_paper h_t_held h_t_numbers h_t_sizes h_t_heldLeaves h_t_items h_t_kept t_genus t_marks t_leaves t_splits t_done t_undone t_metMany t_treesSeen t_taped t_place t_isWrong t_toldGenus t_toldMarks t_isTree t_toldLeaves t_leavesPlace t_toldSplits t_isWhy t_papered t_isKept a_t_tree vL19_1 p0 x3 hx3) gX9_at_X9_isBelow rfl rfl rfl (by decide +kernel) ⟨by first | exact Nat.le_of_ble_eq_true rfl | (simp only [headSpec]; omega), by first | exact Nat.le_of_ble_eq_true rfl | (simp only [headSpec]; omega)⟩ hK hP hD hS hA [0, 1] (by decide) rfl (ci := 8) rfl rfl rfl rfl rfl hl.1 (Nat.le_of_ble_eq_true rfl) dX9_at_31 ⟨Nat.zero_le _, Nat.zero_le _⟩ (fun hp3 H locs hP hS => ?_)
        refine lv_iconst (v := (1 : Int32)) hx hb dX9_at_34 (by decide) ?_
        refine lv_icmp_ne (tgt := 49) hx hb dX9_at_35 (by decide) (fun c4 => ?_) (fun c4 => ?_)
        · have h := it_n h c4
          refine lv_iconst (v := (-1 : Int32)) hx hb dX9_at_49 (by decide) ?_
          refine lv_iand hx hb dX9_at_50 ?_
          refine lv_istore_n (lv' := [(2, .int (vL19_0 &&& (-1 : Int32))), (0, .ref h_t), (1, .int p0), (3, .int vL19_1)]) hx hb dX9_at_51 rfl hl (by decide) rfl (fun ls hl => ?_)
          refine lv_iinc (v := (vL19_1 + (1 : Int32))) (lv' := [(3, .int (vL19_1 + (1 : Int32))), (2, .int (vL19_0 &&& (-1 : Int32))), (0, .ref h_t), (1, .int p0)]) hx hb dX9_at_52 hl (k := 3) rfl (by first | rfl | decide) (by decide) rfl (fun ls hl => ?_)
          refine lv_goto (tgt := 19) hx hb dX9_at_55 (by decide) ?_
          exact ih19 (vL19_0 &&& (-1 : Int32)) (vL19_1 + (1 : Int32)) _ _ _ hP hD hS (lv_sub hl [2, 3, 1, 0] rfl) h
        have h := it_p h c4
        refine lv_aload_n hx hb dX9_at_38 rfl (lv_at hl 0 rfl) ?_
        refine va_get (D := G) (ci := 8) (v := .ref h_t_tree) (C := RX9) (T := TX9) (N := 42) hx hb hts hinX9 hown hK hP 0 rfl rfl 5 (by decide) (hta _ mw_610) (fun _ h9 => h9) rfl dX9_at_39 ?_
        refine lv_iload_n hx hb dX9_at_42 rfl (lv_at hl 3 rfl) ?_
        obtain ⟨hn5, h⟩ := ck_e h
        refine va_iald hx hb hK hP 1 0 rfl rfl hn5 dX9_at_43 ?_
        refine lv_iconst (v := (-1 : Int32)) hx hb dX9_at_44 (by decide) ?_
        refine lv_ixor hx hb dX9_at_45 ?_
        refine lv_goto (tgt := 50) hx hb dX9_at_46 (by decide) ?_
        refine lv_iand hx hb dX9_at_50 ?_
        refine lv_istore_n (lv' := [(2, .int (vL19_0 &&& ((a_t_tree vL19_1.toNatClampNeg) ^^^ (-1 : Int32)))), (0, .ref h_t), (1, .int p0), (3, .int vL19_1)]) hx hb dX9_at_51 rfl hl (by decide) rfl (fun ls hl => ?_)
        refine lv_iinc (v := (vL19_1 + (1 : Int32))) (lv' := [(3, .int (vL19_1 + (1 : Int32))), (2, .int (vL19_0 &&& ((a_t_tree vL19_1.toNatClampNeg) ^^^ (-1 : Int32)))), (0, .ref h_t), (1, .int p0)]) hx hb dX9_at_52 hl (k := 3) rfl (by first | rfl | decide) (by decide) rfl (fun ls hl => ?_)
        refine lv_goto (tgt := 19) hx hb dX9_at_55 (by decide) ?_
        exact ih19 (vL19_0 &&& ((a_t_tree vL19_1.toNatClampNeg) ^^^ (-1 : Int32))) (vL19_1 + (1 : Int32)) _ _ _ hP hD hS (lv_sub hl [2, 3, 1, 0] rfl) h
    exact hL19 FU p0 (0 : Int32) _ _ _ hP hD hS (lv_sub hl [2, 3, 1, 0] rfl) h
  have h := it_p h c1
  refine lv_iconst (v := (1 : Int32)) hx hb dX9_at_4 (by decide) ?_
  refine lv_aload_n hx hb dX9_at_5 rfl (lv_at hl 0 rfl) ?_
  refine va_get (D := G) (ci := 8) (v := .int t_leaves) (C := RX9) (T := TX9) (N := 42) hx hb hts hinX9 hown hK hP 0 rfl rfl 3 (by decide) (hta _ mw_609) (fun _ h9 => h9) rfl dX9_at_6 ?_
  refine lv_ishl hx hb dX9_at_9 ?_
  refine lv_iconst (v := (1 : Int32)) hx hb dX9_at_10 (by decide) ?_
  refine lv_isub hx hb dX9_at_11 ?_
  refine lv_goto (tgt := 16) hx hb dX9_at_12 (by decide) ?_
  refine lv_istore_n (lv' := [(2, .int (((1 : Int32) <<< (t_leaves &&& 31)) - (1 : Int32))), (0, .ref h_t), (1, .int p0)]) hx hb dX9_at_16 rfl hl (by decide) rfl (fun ls hl => ?_)
  refine lv_iconst (v := (0 : Int32)) hx hb dX9_at_17 (by decide) ?_
  refine lv_istore_n (lv' := [(3, .int (0 : Int32)), (2, .int (((1 : Int32) <<< (t_leaves &&& 31)) - (1 : Int32))), (0, .ref h_t), (1, .int p0)]) hx hb dX9_at_18 rfl hl (by decide) rfl (fun ls hl => ?_)
  have hK_X9_at_19_58x1 : ∀  (vK19_58_0 : Int32) (H : Heap) (locs : List Loc) (ls : Array Slot), va_P G vwCl [(h_t, .inr (8, [.int t_genus, .int t_marks, .ref h_t_powers, .int t_leaves, .int t_splits, .ref h_t_tree, .ref h_t_ahead, .ref h_t_behind, .ref h_t_before, .int t_done, .int t_undone, .ref h_t_rows, .ref h_t_met, .ref h_t_metSizes, .int t_metMany, .int t_treesSeen, .ref h_t_chosen, .ref h_t_tape, .int t_taped, .int t_place, .int t_isWrong, .int t_toldGenus, .int t_toldMarks, .ref h_t_toldPowers, .ref h_t_powerPlaces, .int t_isTree, .int t_toldLeaves, .int t_leavesPlace, .int t_toldSplits, .ref h_t_toldTree, .ref h_t_splitPlaces, .ref h_t_layers, .int t_isWhy, .ref h_t_paper, .int t_papered, .ref h_t_held, .ref h_t_numbers, .ref h_t_sizes, .ref h_t_heldLeaves, .ref h_t_items, .ref h_t_kept, .int t_isKept])), (h_t_tree, .inl (cI, 3, .inl a_t_tree))] H → va_D A [(h_t, .inr (8, [.int t_genus, .int t_marks, .ref h_t_powers, .int t_leaves, .int t_splits, .ref h_t_tree, .ref h_t_ahead, .ref h_t_behind, .ref h_t_before, .int t_done, .int t_undone, .ref h_t_rows, .ref h_t_met, .ref h_t_metSizes, .int t_metMany, .int t_treesSeen, .ref h_t_chosen, .ref h_t_tape, .int t_taped, .int t_place, .int t_isWrong, .int t_toldGenus, .int t_toldMarks, .ref h_t_toldPowers, .ref h_t_powerPlaces, .int t_isTree, .int t_toldLeaves, .int t_leavesPlace, .int t_toldSplits, .ref h_t_toldTree, .ref h_t_splitPlaces, .ref h_t_layers, .int t_isWhy, .ref h_t_paper, .int t_papered, .ref h_t_held, .ref h_t_numbers, .ref h_t_sizes, .ref h_t_heldLeaves, .ref h_t_items, .ref h_t_kept, .int t_isKept])), (h_t_tree, .inl (cI, 3, .inl a_t_tree))] → va_S A s.heap H locs → lv_has ls 4 [(2, .int vK19_58_0)] → K_X9_at_19_58x1 vK19_58_0 = some r0 → W p l e (headSpec wsX9_at ({ frames := 2, cells := 0, slots := 0, locals := 45 })).room s m ([.ref h_t, .int p0] : List Value).toArray below meth c H locs 0 0 (MQ below (va_Qi (fun r (_ : Unit) => r = r0 ∧ True) (fun _ t => va_P G vwCl [(h_t, .inr (8, [.int t_genus, .int t_marks, .ref h_t_powers, .int t_leaves, .int t_splits, .ref h_t_tree, .ref h_t_ahead, .ref h_t_behind, .ref h_t_before, .int t_done, .int t_undone, .ref h_t_rows, .ref h_t_met, .ref h_t_metSizes, .int t_metMany, .int t_treesSeen, .ref h_t_chosen, .ref h_t_tape, .int t_taped, .int t_place, .int t_isWrong, .int t_toldGenus, .int t_toldMarks, .ref h_t_toldPowers, .ref h_t_powerPlaces, .int t_isTree, .int t_toldLeaves, .int t_leavesPlace, .int t_toldSplits, .ref h_t_toldTree, .ref h_t_splitPlaces, .ref h_t_layers, .int t_isWhy, .ref h_t_paper, .int t_papered, .ref h_t_held, .ref h_t_numbers, .ref h_t_sizes, .ref h_t_heldLeaves, .ref h_t_items, .ref h_t_kept, .int t_isKept])), (h_t_tree, .inl (cI, 3, .inl a_t_tree))] t.heap) A) ([.ref h_t, .int p0] : List Value).toArray s 0 0 A) (F0 m 58 ls []) := by
    intro vK19_58_0 H locs ls hP hD hS hl h
    unfold K_X9_at_19_58x1 at h
    refine lv_iload_n hx hb dX9_at_58 rfl (lv_at hl 0 rfl) ?_
    have h9 := Option.some.inj h
    have e9 : vK19_58_0 = r0 := congrArg (fun z9 => z9) h9
    rw [← e9]
    exact k_iret hx hb hr hlocks hP hS rfl dX9_at_59
  have hL19x1 : ∀ (n19 : Nat) (vL19_0 : Int32) (vL19_1 : Int32) (H : Heap) (locs : List Loc) (ls : Array Slot), va_P G vwCl [(h_t, .inr (8, [.int t_genus, .int t_marks, .ref h_t_powers, .int t_leaves, .int t_splits, .ref h_t_tree, .ref h_t_ahead, .ref h_t_behind, .ref h_t_before, .int t_done, .int t_undone, .ref h_t_rows, .ref h_t_met, .ref h_t_metSizes, .int t_metMany, .int t_treesSeen, .ref h_t_chosen, .ref h_t_tape, .int t_taped, .int t_place, .int t_isWrong, .int t_toldGenus, .int t_toldMarks, .ref h_t_toldPowers, .ref h_t_powerPlaces, .int t_isTree, .int t_toldLeaves, .int t_leavesPlace, .int t_toldSplits, .ref h_t_toldTree, .ref h_t_splitPlaces, .ref h_t_layers, .int t_isWhy, .ref h_t_paper, .int t_papered, .ref h_t_held, .ref h_t_numbers, .ref h_t_sizes, .ref h_t_heldLeaves, .ref h_t_items, .ref h_t_kept, .int t_isKept])), (h_t_tree, .inl (cI, 3, .inl a_t_tree))] H → va_D A [(h_t, .inr (8, [.int t_genus, .int t_marks, .ref h_t_powers, .int t_leaves, .int t_splits, .ref h_t_tree, .ref h_t_ahead, .ref h_t_behind, .ref h_t_before, .int t_done, .int t_undone, .ref h_t_rows, .ref h_t_met, .ref h_t_metSizes, .int t_metMany, .int t_treesSeen, .ref h_t_chosen, .ref h_t_tape, .int t_taped, .int t_place, .int t_isWrong, .int t_toldGenus, .int t_toldMarks, .ref h_t_toldPowers, .ref h_t_powerPlaces, .int t_isTree, .int t_toldLeaves, .int t_leavesPlace, .int t_toldSplits, .ref h_t_toldTree, .ref h_t_splitPlaces, .ref h_t_layers, .int t_isWhy, .ref h_t_paper, .int t_papered, .ref h_t_held, .ref h_t_numbers, .ref h_t_sizes, .ref h_t_heldLeaves, .ref h_t_items, .ref h_t_kept, .int t_isKept])), (h_t_tree, .inl (cI, 3, .inl a_t_tree))] → va_S A s.heap H locs → lv_has ls 4 [(0, .ref h_t), (1, .int p0), (2, .int vL19_0), (3, .int vL19_1)] → wq2 (B_X9_at_19x1 t_splits a_t_tree p0 K_X9_at_19_58x1) n19 vL19_0 vL19_1 = some r0 → W p l e (headSpec wsX9_at ({ frames := 2, cells := 0, slots := 0, locals := 45 })).room s m ([.ref h_t, .int p0] : List Value).toArray below meth c H locs 0 0 (MQ below (va_Qi (fun r (_ : Unit) => r = r0 ∧ True) (fun _ t => va_P G vwCl [(h_t, .inr (8, [.int t_genus, .int t_marks, .ref h_t_powers, .int t_leaves, .int t_splits, .ref h_t_tree, .ref h_t_ahead, .ref h_t_behind, .ref h_t_before, .int t_done, .int t_undone, .ref h_t_rows, .ref h_t_met, .ref h_t_metSizes, .int t_metMany, .int t_treesSeen, .ref h_t_chosen, .ref h_t_tape, .int t_taped, .int t_place, .int t_isWrong, .int t_toldGenus, .int t_toldMarks, .ref h_t_toldPowers, .ref h_t_powerPlaces, .int t_isTree, .int t_toldLeaves, .int t_leavesPlace, .int t_toldSplits, .ref h_t_toldTree, .ref h_t_splitPlaces, .ref h_t_layers, .int t_isWhy, .ref h_t_paper, .int t_papered, .ref h_t_held, .ref h_t_numbers, .ref h_t_sizes, .ref h_t_heldLeaves, .ref h_t_items, .ref h_t_kept, .int t_isKept])), (h_t_tree, .inl (cI, 3, .inl a_t_tree))] t.heap) A) ([.ref h_t, .int p0] : List Value).toArray s 0 0 A) (F0 m 19 ls []) := by
    intro n19
    induction n19 with
    | zero => intro vL19_0 vL19_1 H locs ls hP hD hS hl h; exact wq2_0 h
    | succ n19 ih19 =>
      intro vL19_0 vL19_1 H locs ls hP hD hS hl h
      have h := wq2_s h
      unfold B_X9_at_19x1 at h
      refine lv_iload_n hx hb dX9_at_19 rfl (lv_at hl 3 rfl) ?_
      refine lv_aload_n hx hb dX9_at_20 rfl (lv_at hl 0 rfl) ?_
      refine va_get (D := G) (ci := 8) (v := .int t_splits) (C := RX9) (T := TX9) (N := 42) hx hb hts hinX9 hown hK hP 0 rfl rfl 4 (by decide) (hta _ mw_642) (fun _ h9 => h9) rfl dX9_at_21 ?_
      refine lv_icmp_ge (tgt := 58) hx hb dX9_at_24 (by decide) (fun c6 => ?_) (fun c6 => ?_)
      · have h := it_p h c6
        exact hK_X9_at_19_58x1 vL19_0 _ _ _ hP hD hS (lv_sub hl [2] rfl) h
      have h := it_n h c6
      refine lv_iload_n hx hb dX9_at_27 rfl (lv_at hl 2 rfl) ?_
      refine lv_aload_n hx hb dX9_at_28 rfl (lv_at hl 0 rfl) ?_
      refine lv_iload_n hx hb dX9_at_29 rfl (lv_at hl 3 rfl) ?_
      refine lv_iload_n hx hb dX9_at_30 rfl (lv_at hl 1 rfl) ?_
      obtain ⟨x7, hx7, h⟩ := bd_e h
      try dsimp only at h
      refine k_ViU (n := 2) (As := [.int vL19_1, .int p0]) (rest := [.int vL19_0]) hx hb hml hown hts (c_X9_isBelow l G cI cJ cD cH H.size h_t h_t_tree h_t_powers h_t_ahead h_t_behind h_t_before h_t_rows h_t_met h_t_metSizes h_t_chosen h_t_tape h_t_toldPowers h_t_powerPlaces h_t_toldTree h_t_splitPlaces h_t_layers h_t_paper h_t_held h_t_numbers h_t_sizes h_t_heldLeaves h_t_items h_t_kept t_genus t_marks t_leaves t_splits t_done t_undone t_metMany t_treesSeen t_taped t_place t_isWrong t_toldGenus t_toldMarks t_isTree t_toldLeaves t_leavesPlace t_toldSplits t_isWhy t_papered t_isKept a_t_tree vL19_1 p0 x7 hx7) gX9_at_X9_isBelow rfl rfl rfl (by decide +kernel) ⟨by first | exact Nat.le_of_ble_eq_true rfl | (simp only [headSpec]; omega), by first | exact Nat.le_of_ble_eq_true rfl | (simp only [headSpec]; omega)⟩ hK hP hD hS hA [0, 1] (by decide) rfl (ci := 8) rfl rfl rfl rfl rfl hl.1 (Nat.le_of_ble_eq_true rfl) dX9_at_31 ⟨Nat.zero_le _, Nat.zero_le _⟩ (fun hp7 H locs hP hS => ?_)
      refine lv_iconst (v := (1 : Int32)) hx hb dX9_at_34 (by decide) ?_
      refine lv_icmp_ne (tgt := 49) hx hb dX9_at_35 (by decide) (fun c8 => ?_) (fun c8 => ?_)
      · have h := it_n h c8
        refine lv_iconst (v := (-1 : Int32)) hx hb dX9_at_49 (by decide) ?_
        refine lv_iand hx hb dX9_at_50 ?_
        refine lv_istore_n (lv' := [(2, .int (vL19_0 &&& (-1 : Int32))), (0, .ref h_t), (1, .int p0), (3, .int vL19_1)]) hx hb dX9_at_51 rfl hl (by decide) rfl (fun ls hl => ?_)
        refine lv_iinc (v := (vL19_1 + (1 : Int32))) (lv' := [(3, .int (vL19_1 + (1 : Int32))), (2, .int (vL19_0 &&& (-1 : Int32))), (0, .ref h_t), (1, .int p0)]) hx hb dX9_at_52 hl (k := 3) rfl (by first | rfl | decide) (by decide) rfl (fun ls hl => ?_)
        refine lv_goto (tgt := 19) hx hb dX9_at_55 (by decide) ?_
        exact ih19 (vL19_0 &&& (-1 : Int32)) (vL19_1 + (1 : Int32)) _ _ _ hP hD hS (lv_sub hl [2, 3, 1, 0] rfl) h
      have h := it_p h c8
      refine lv_aload_n hx hb dX9_at_38 rfl (lv_at hl 0 rfl) ?_
      refine va_get (D := G) (ci := 8) (v := .ref h_t_tree) (C := RX9) (T := TX9) (N := 42) hx hb hts hinX9 hown hK hP 0 rfl rfl 5 (by decide) (hta _ mw_610) (fun _ h9 => h9) rfl dX9_at_39 ?_
      refine lv_iload_n hx hb dX9_at_42 rfl (lv_at hl 3 rfl) ?_
      obtain ⟨hn9, h⟩ := ck_e h
      refine va_iald hx hb hK hP 1 0 rfl rfl hn9 dX9_at_43 ?_
      refine lv_iconst (v := (-1 : Int32)) hx hb dX9_at_44 (by decide) ?_
      refine lv_ixor hx hb dX9_at_45 ?_
      refine lv_goto (tgt := 50) hx hb dX9_at_46 (by decide) ?_
      refine lv_iand hx hb dX9_at_50 ?_
      refine lv_istore_n (lv' := [(2, .int (vL19_0 &&& ((a_t_tree vL19_1.toNatClampNeg) ^^^ (-1 : Int32)))), (0, .ref h_t), (1, .int p0), (3, .int vL19_1)]) hx hb dX9_at_51 rfl hl (by decide) rfl (fun ls hl => ?_)
      refine lv_iinc (v := (vL19_1 + (1 : Int32))) (lv' := [(3, .int (vL19_1 + (1 : Int32))), (2, .int (vL19_0 &&& ((a_t_tree vL19_1.toNatClampNeg) ^^^ (-1 : Int32)))), (0, .ref h_t), (1, .int p0)]) hx hb dX9_at_52 hl (k := 3) rfl (by first | rfl | decide) (by decide) rfl (fun ls hl => ?_)
      refine lv_goto (tgt := 19) hx hb dX9_at_55 (by decide) ?_
      exact ih19 (vL19_0 &&& ((a_t_tree vL19_1.toNatClampNeg) ^^^ (-1 : Int32))) (vL19_1 + (1 : Int32)) _ _ _ hP hD hS (lv_sub hl [2, 3, 1, 0] rfl) h
  exact hL19x1 FU (((1 : Int32) <<< (t_leaves &&& 31)) - (1 : Int32)) (0 : Int32) _ _ _ hP hD hS (lv_sub hl [2, 3, 1, 0] rfl) h

/-! X9_valence -/
set_option maxHeartbeats 4000000 in
set_option maxRecDepth 100000 in
theorem tJ_X9_valence_32 {l : Launch} {G : va_G} {cI cJ cD cH : ClassId} {h_t : Nat} {h_t_tree : Nat} {h_t_powers : Nat} {h_t_ahead : Nat} {h_t_behind : Nat} {h_t_before : Nat} {h_t_rows : Nat} {h_t_met : Nat} {h_t_metSizes : Nat} {h_t_chosen : Nat} {h_t_tape : Nat} {h_t_toldPowers : Nat} {h_t_powerPlaces : Nat} {h_t_toldTree : Nat} {h_t_splitPlaces : Nat} {h_t_layers : Nat} {h_t_paper : Nat} {h_t_held : Nat} {h_t_numbers : Nat} {h_t_sizes : Nat} {h_t_heldLeaves : Nat} {h_t_items : Nat} {h_t_kept : Nat} {t_genus : Int32} {t_marks : Int32} {t_leaves : Int32} {t_splits : Int32} {t_done : Int32} {t_undone : Int32} {t_metMany : Int32} {t_treesSeen : Int32} {t_taped : Int32} {t_place : Int32} {t_isWrong : Int32} {t_toldGenus : Int32} {t_toldMarks : Int32} {t_isTree : Int32} {t_toldLeaves : Int32} {t_leavesPlace : Int32} {t_toldSplits : Int32} {t_isWhy : Int32} {t_papered : Int32} {t_isKept : Int32} {a_t_tree : Nat → Int32} {p0 : Int32} {r0 : Int32} {p : Program} {e : Env} {s : State} {m : MethodId} {below : List Frame} {meth : Method} {c : Code} {A : Nat → Prop} (hx : p.tables.exec = Jvm.exec) (hb : c.code = cX9_valence) (hr : meth.sig.returnType = (some .int)) (hml : c.maxLocals = 2) (hts : ∀ w ∈ wsX9_valence, w.before ([.ref h_t, .int p0] : List Value).toArray s = true) (hown : s.vm.findClass RX9 = some m.cls) (hlocks : meth.locks = false) (hK : va_K G vwCl (k_T cI cJ cD cH) s) (hA : ∀ q : Nat, s.heap.size ≤ q → A q) : ∀ (H : Heap) (locs : List Loc) (ls : Array Slot), va_P G vwCl [(h_t, .inr (8, [.int t_genus, .int t_marks, .ref h_t_powers, .int t_leaves, .int t_splits, .ref h_t_tree, .ref h_t_ahead, .ref h_t_behind, .ref h_t_before, .int t_done, .int t_undone, .ref h_t_rows, .ref h_t_met, .ref h_t_metSizes, .int t_metMany, .int t_treesSeen, .ref h_t_chosen, .ref h_t_tape, .int t_taped, .int t_place, .int t_isWrong, .int t_toldGenus, .int t_toldMarks, .ref h_t_toldPowers, .ref h_t_powerPlaces, .int t_isTree, .int t_toldLeaves, .int t_leavesPlace, .int t_toldSplits, .ref h_t_toldTree, .ref h_t_splitPlaces, .ref h_t_layers, .int t_isWhy, .ref h_t_paper, .int t_papered, .ref h_t_held, .ref h_t_numbers, .ref h_t_sizes, .ref h_t_heldLeaves, .ref h_t_items, .ref h_t_kept, .int t_isKept])), (h_t_tree, .inl (cI, 3, .inl a_t_tree))] H → va_D A [(h_t, .inr (8, [.int t_genus, .int t_marks, .ref h_t_powers, .int t_leaves, .int t_splits, .ref h_t_tree, .ref h_t_ahead, .ref h_t_behind, .ref h_t_before, .int t_done, .int t_undone, .ref h_t_rows, .ref h_t_met, .ref h_t_metSizes, .int t_metMany, .int t_treesSeen, .ref h_t_chosen, .ref h_t_tape, .int t_taped, .int t_place, .int t_isWrong, .int t_toldGenus, .int t_toldMarks, .ref h_t_toldPowers, .ref h_t_powerPlaces, .int t_isTree, .int t_toldLeaves, .int t_leavesPlace, .int t_toldSplits, .ref h_t_toldTree, .ref h_t_splitPlaces, .ref h_t_layers, .int t_isWhy, .ref h_t_paper, .int t_papered, .ref h_t_held, .ref h_t_numbers, .ref h_t_sizes, .ref h_t_heldLeaves, .ref h_t_items, .ref h_t_kept, .int t_isKept])), (h_t_tree, .inl (cI, 3, .inl a_t_tree))] → va_S A s.heap H locs → lv_has ls 2 [(0, .ref h_t), (1, .int p0)] → J_X9_valence_32 t_leaves t_splits a_t_tree p0 = some r0 → W p l e (headSpec wsX9_valence ({ frames := 3, cells := 0, slots := 0, locals := 68 })).room s m ([.ref h_t, .int p0] : List Value).toArray below meth c H locs 0 0 (MQ below (va_Qi (fun r (_ : Unit) => r = r0 ∧ True) (fun _ t => va_P G vwCl [(h_t, .inr (8, [.int t_genus, .int t_marks, .ref h_t_powers, .int t_leaves, .int t_splits, .ref h_t_tree, .ref h_t_ahead, .ref h_t_behind, .ref h_t_before, .int t_done, .int t_undone, .ref h_t_rows, .ref h_t_met, .ref h_t_metSizes, .int t_metMany, .int t_treesSeen, .ref h_t_chosen, .ref h_t_tape, .int t_taped, .int t_place, .int t_isWrong, .int t_toldGenus, .int t_toldMarks, .ref h_t_toldPowers, .ref h_t_powerPlaces, .int t_isTree, .int t_toldLeaves, .int t_leavesPlace, .int t_toldSplits, .ref h_t_toldTree, .ref h_t_splitPlaces, .ref h_t_layers, .int t_isWhy, .ref h_t_paper, .int t_papered, .ref h_t_held, .ref h_t_numbers, .ref h_t_sizes, .ref h_t_heldLeaves, .ref h_t_items, .ref h_t_kept, .int t_isKept])), (h_t_tree, .inl (cI, 3, .inl a_t_tree))] t.heap) A) ([.ref h_t, .int p0] : List Value).toArray s 0 0 A) (F0 m 32 ls []) := by
  have hta : ∀ w ∈ wA, w.before ([.ref h_t, .int p0] : List Value).toArray s = true := hta_of hts
  have hinX9 : ∀ w ∈ wsX90, w ∈ wsX9_valence := hin_of in_X9
  intro  H locs ls hP hD hS hl h
  unfold J_X9_valence_32 at h
  refine lv_aload_n hx hb dX9_valence_32 rfl (lv_at hl 0 rfl) ?_
  refine lv_iload_n hx hb dX9_valence_33 rfl (lv_at hl 1 rfl) ?_
  obtain ⟨x1, hx1, h⟩ := bd_e h
  try dsimp only at h
  refine k_ViU (n := 1) (As := [.int p0]) (rest := []) hx hb hml hown hts (c_X9_at l G cI cJ cD cH H.size h_t h_t_tree h_t_powers h_t_ahead h_t_behind h_t_before h_t_rows h_t_met h_t_metSizes h_t_chosen h_t_tape h_t_toldPowers h_t_powerPlaces h_t_toldTree h_t_splitPlaces h_t_layers h_t_paper h_t_held h_t_numbers h_t_sizes h_t_heldLeaves h_t_items h_t_kept t_genus t_marks t_leaves t_splits t_done t_undone t_metMany t_treesSeen t_taped t_place t_isWrong t_toldGenus t_toldMarks t_isTree t_toldLeaves t_leavesPlace t_toldSplits t_isWhy t_papered t_isKept a_t_tree p0 x1 hx1) gX9_valence_X9_at rfl rfl rfl (by decide +kernel) ⟨by first | exact Nat.le_of_ble_eq_true rfl | (simp only [headSpec]; omega), by first | exact Nat.le_of_ble_eq_true rfl | (simp only [headSpec]; omega)⟩ hK hP hD hS hA [0, 1] (by decide) rfl (ci := 8) rfl rfl rfl rfl rfl hl.1 (Nat.le_of_ble_eq_true rfl) dX9_valence_34 ⟨Nat.zero_le _, Nat.zero_le _⟩ (fun hp1 H locs hP hS => ?_)
  obtain ⟨x2, hx2, h⟩ := bd_e h
  try dsimp only at h
  refine k_SiU (n := 1) (As := [.int x1]) (rest := []) hx hb hml hown hts (c_X9_bits l G cI cJ cD cH H.size x1 x2 hx2) gX9_valence_X9_bits rfl rfl rfl (by decide +kernel) ⟨by first | exact Nat.le_of_ble_eq_true rfl | (simp only [headSpec]; omega), by first | exact Nat.le_of_ble_eq_true rfl | (simp only [headSpec]; omega)⟩ hK hP hD hS hA [] (by decide) rfl rfl rfl hl.1 (Nat.le_of_ble_eq_true rfl) dX9_valence_37 ⟨Nat.zero_le _, Nat.zero_le _⟩ (fun hp2 H locs hP hS => ?_)
  refine lv_aload_n hx hb dX9_valence_40 rfl (lv_at hl 0 rfl) ?_
  refine lv_iload_n hx hb dX9_valence_41 rfl (lv_at hl 1 rfl) ?_
  obtain ⟨x3, hx3, h⟩ := bd_e h
  try dsimp only at h
  refine k_ViU (n := 1) (As := [.int p0]) (rest := [.int x2]) hx hb hml hown hts (c_X9_edges l G cI cJ cD cH H.size h_t h_t_tree h_t_powers h_t_ahead h_t_behind h_t_before h_t_rows h_t_met h_t_metSizes h_t_chosen h_t_tape h_t_toldPowers h_t_powerPlaces h_t_toldTree h_t_splitPlaces h_t_layers h_t_paper h_t_held h_t_numbers h_t_sizes h_t_heldLeaves h_t_items h_t_kept t_genus t_marks t_leaves t_splits t_done t_undone t_metMany t_treesSeen t_taped t_place t_isWrong t_toldGenus t_toldMarks t_isTree t_toldLeaves t_leavesPlace t_toldSplits t_isWhy t_papered t_isKept a_t_tree p0 x3 hx3) gX9_valence_X9_edges rfl rfl rfl (by decide +kernel) ⟨by first | exact Nat.le_of_ble_eq_true rfl | (simp only [headSpec]; omega), by first | exact Nat.le_of_ble_eq_true rfl | (simp only [headSpec]; omega)⟩ hK hP hD hS hA [0, 1] (by decide) rfl (ci := 8) rfl rfl rfl rfl rfl hl.1 (Nat.le_of_ble_eq_true rfl) dX9_valence_42 ⟨Nat.zero_le _, Nat.zero_le _⟩ (fun hp3 H locs hP hS => ?_)
  refine lv_iadd hx hb dX9_valence_45 ?_
  have h9 := Option.some.inj h
  have e9 : (x2 + x3) = r0 := congrArg (fun z9 => z9) h9
  rw [← e9]
  exact k_iret hx hb hr hlocks hP hS rfl dX9_valence_46
set_option maxHeartbeats 4000000 in
set_option maxRecDepth 100000 in
theorem tJ_X9_valence_17 {l : Launch} {G : va_G} {cI cJ cD cH : ClassId} {h_t : Nat} {h_t_tree : Nat} {h_t_powers : Nat} {h_t_ahead : Nat} {h_t_behind : Nat} {h_t_before : Nat} {h_t_rows : Nat} {h_t_met : Nat} {h_t_metSizes : Nat} {h_t_chosen : Nat} {h_t_tape : Nat} {h_t_toldPowers : Nat} {h_t_powerPlaces : Nat} {h_t_toldTree : Nat} {h_t_splitPlaces : Nat} {h_t_layers : Nat} {h_t_paper : Nat} {h_t_held : Nat} {h_t_numbers : Nat} {h_t_sizes : Nat} {h_t_heldLeaves : Nat} {h_t_items : Nat} {h_t_kept : Nat} {t_genus : Int32} {t_marks : Int32} {t_leaves : Int32} {t_splits : Int32} {t_done : Int32} {t_undone : Int32} {t_metMany : Int32} {t_treesSeen : Int32} {t_taped : Int32} {t_place : Int32} {t_isWrong : Int32} {t_toldGenus : Int32} {t_toldMarks : Int32} {t_isTree : Int32} {t_toldLeaves : Int32} {t_leavesPlace : Int32} {t_toldSplits : Int32} {t_isWhy : Int32} {t_papered : Int32} {t_isKept : Int32} {a_t_tree : Nat → Int32} {p0 : Int32} {r0 : Int32} {p : Program} {e : Env} {s : State} {m : MethodId} {below : List Frame} {meth : Method} {c : Code} {A : Nat → Prop} (hx : p.tables.exec = Jvm.exec) (hb : c.code = cX9_valence) (hr : meth.sig.returnType = (some .int)) (hml : c.maxLocals = 2) (hts : ∀ w ∈ wsX9_valence, w.before ([.ref h_t, .int p0] : List Value).toArray s = true) (hown : s.vm.findClass RX9 = some m.cls) (hlocks : meth.locks = false) (hK : va_K G vwCl (k_T cI cJ cD cH) s) (hA : ∀ q : Nat, s.heap.size ≤ q → A q) : ∀ (H : Heap) (locs : List Loc) (ls : Array Slot), va_P G vwCl [(h_t, .inr (8, [.int t_genus, .int t_marks, .ref h_t_powers, .int t_leaves, .int t_splits, .ref h_t_tree, .ref h_t_ahead, .ref h_t_behind, .ref h_t_before, .int t_done, .int t_undone, .ref h_t_rows, .ref h_t_met, .ref h_t_metSizes, .int t_metMany, .int t_treesSeen, .ref h_t_chosen, .ref h_t_tape, .int t_taped, .int t_place, .int t_isWrong, .int t_toldGenus, .int t_toldMarks, .ref h_t_toldPowers, .ref h_t_powerPlaces, .int t_isTree, .int t_toldLeaves, .int t_leavesPlace, .int t_toldSplits, .ref h_t_toldTree, .ref h_t_splitPlaces, .ref h_t_layers, .int t_isWhy, .ref h_t_paper, .int t_papered, .ref h_t_held, .ref h_t_numbers, .ref h_t_sizes, .ref h_t_heldLeaves, .ref h_t_items, .ref h_t_kept, .int t_isKept])), (h_t_tree, .inl (cI, 3, .inl a_t_tree))] H → va_D A [(h_t, .inr (8, [.int t_genus, .int t_marks, .ref h_t_powers, .int t_leaves, .int t_splits, .ref h_t_tree, .ref h_t_ahead, .ref h_t_behind, .ref h_t_before, .int t_done, .int t_undone, .ref h_t_rows, .ref h_t_met, .ref h_t_metSizes, .int t_metMany, .int t_treesSeen, .ref h_t_chosen, .ref h_t_tape, .int t_taped, .int t_place, .int t_isWrong, .int t_toldGenus, .int t_toldMarks, .ref h_t_toldPowers, .ref h_t_powerPlaces, .int t_isTree, .int t_toldLeaves, .int t_leavesPlace, .int t_toldSplits, .ref h_t_toldTree, .ref h_t_splitPlaces, .ref h_t_layers, .int t_isWhy, .ref h_t_paper, .int t_papered, .ref h_t_held, .ref h_t_numbers, .ref h_t_sizes, .ref h_t_heldLeaves, .ref h_t_items, .ref h_t_kept, .int t_isKept])), (h_t_tree, .inl (cI, 3, .inl a_t_tree))] → va_S A s.heap H locs → lv_has ls 2 [(0, .ref h_t), (1, .int p0)] → J_X9_valence_17 t_leaves t_splits a_t_tree p0 = some r0 → W p l e (headSpec wsX9_valence ({ frames := 3, cells := 0, slots := 0, locals := 68 })).room s m ([.ref h_t, .int p0] : List Value).toArray below meth c H locs 0 0 (MQ below (va_Qi (fun r (_ : Unit) => r = r0 ∧ True) (fun _ t => va_P G vwCl [(h_t, .inr (8, [.int t_genus, .int t_marks, .ref h_t_powers, .int t_leaves, .int t_splits, .ref h_t_tree, .ref h_t_ahead, .ref h_t_behind, .ref h_t_before, .int t_done, .int t_undone, .ref h_t_rows, .ref h_t_met, .ref h_t_metSizes, .int t_metMany, .int t_treesSeen, .ref h_t_chosen, .ref h_t_tape, .int t_taped, .int t_place, .int t_isWrong, .int t_toldGenus, .int t_toldMarks, .ref h_t_toldPowers, .ref h_t_powerPlaces, .int t_isTree, .int t_toldLeaves, .int t_leavesPlace, .int t_toldSplits, .ref h_t_toldTree, .ref h_t_splitPlaces, .ref h_t_layers, .int t_isWhy, .ref h_t_paper, .int t_papered, .ref h_t_held, .ref h_t_numbers, .ref h_t_sizes, .ref h_t_heldLeaves, .ref h_t_items, .ref h_t_kept, .int t_isKept])), (h_t_tree, .inl (cI, 3, .inl a_t_tree))] t.heap) A) ([.ref h_t, .int p0] : List Value).toArray s 0 0 A) (F0 m 17 ls []) := by
  have hta : ∀ w ∈ wA, w.before ([.ref h_t, .int p0] : List Value).toArray s = true := hta_of hts
  have hinX9 : ∀ w ∈ wsX90, w ∈ wsX9_valence := hin_of in_X9
  intro  H locs ls hP hD hS hl h
  unfold J_X9_valence_17 at h
  refine lv_iload_n hx hb dX9_valence_17 rfl (lv_at hl 1 rfl) ?_
  refine lv_if_eq (tgt := 32) hx hb dX9_valence_18 (by decide) (fun c4 => ?_) (fun c4 => ?_)
  · have h := it_p h c4
    exact tJ_X9_valence_32 hx hb hr hml hts hown hlocks hK hA  _ _ _ hP hD hS (lv_sub hl [0, 1] rfl) h
  have h := it_n h c4
  refine lv_aload_n hx hb dX9_valence_21 rfl (lv_at hl 0 rfl) ?_
  refine lv_iload_n hx hb dX9_valence_22 rfl (lv_at hl 1 rfl) ?_
  obtain ⟨x5, hx5, h⟩ := bd_e h
  try dsimp only at h
  refine k_ViU (n := 1) (As := [.int p0]) (rest := []) hx hb hml hown hts (c_X9_placeOf l G cI cJ cD cH H.size h_t h_t_tree h_t_powers h_t_ahead h_t_behind h_t_before h_t_rows h_t_met h_t_metSizes h_t_chosen h_t_tape h_t_toldPowers h_t_powerPlaces h_t_toldTree h_t_splitPlaces h_t_layers h_t_paper h_t_held h_t_numbers h_t_sizes h_t_heldLeaves h_t_items h_t_kept t_genus t_marks t_leaves t_splits t_done t_undone t_metMany t_treesSeen t_taped t_place t_isWrong t_toldGenus t_toldMarks t_isTree t_toldLeaves t_leavesPlace t_toldSplits t_isWhy t_papered t_isKept a_t_tree p0 x5 hx5) gX9_valence_X9_placeOf rfl rfl rfl (by decide +kernel) ⟨by first | exact Nat.le_of_ble_eq_true rfl | (simp only [headSpec]; omega), by first | exact Nat.le_of_ble_eq_true rfl | (simp only [headSpec]; omega)⟩ hK hP hD hS hA [0, 1] (by decide) rfl (ci := 8) rfl rfl rfl rfl rfl hl.1 (Nat.le_of_ble_eq_true rfl) dX9_valence_23 ⟨Nat.zero_le _, Nat.zero_le _⟩ (fun hp5 H locs hP hS => ?_)
  refine lv_if_ge (tgt := 32) hx hb dX9_valence_26 (by decide) (fun c6 => ?_) (fun c6 => ?_)
  · have h := it_p h c6
    exact tJ_X9_valence_32 hx hb hr hml hts hown hlocks hK hA  _ _ _ hP hD hS (lv_sub hl [0, 1] rfl) h
  have h := it_n h c6
  refine lv_bipush (v := (-5 : Int32)) hx hb dX9_valence_29 (by decide) ?_
  have h9 := Option.some.inj h
  have e9 : (-5 : Int32) = r0 := congrArg (fun z9 => z9) h9
  rw [← e9]
  exact k_iret hx hb hr hlocks hP hS rfl dX9_valence_31
set_option maxHeartbeats 4000000 in
set_option maxRecDepth 100000 in
theorem c_X9_valence (l : Launch) (G : va_G) (cI cJ cD cH : ClassId) (sz : Nat) (h_t : Nat) (h_t_tree : Nat) (h_t_powers : Nat) (h_t_ahead : Nat) (h_t_behind : Nat) (h_t_before : Nat) (h_t_rows : Nat) (h_t_met : Nat) (h_t_metSizes : Nat) (h_t_chosen : Nat) (h_t_tape : Nat) (h_t_toldPowers : Nat) (h_t_powerPlaces : Nat) (h_t_toldTree : Nat) (h_t_splitPlaces : Nat) (h_t_layers : Nat) (h_t_paper : Nat) (h_t_held : Nat) (h_t_numbers : Nat) (h_t_sizes : Nat) (h_t_heldLeaves : Nat) (h_t_items : Nat) (h_t_kept : Nat) (t_genus : Int32) (t_marks : Int32) (t_leaves : Int32) (t_splits : Int32) (t_done : Int32) (t_undone : Int32) (t_metMany : Int32) (t_treesSeen : Int32) (t_taped : Int32) (t_place : Int32) (t_isWrong : Int32) (t_toldGenus : Int32) (t_toldMarks : Int32) (t_isTree : Int32) (t_toldLeaves : Int32) (t_leavesPlace : Int32) (t_toldSplits : Int32) (t_isWhy : Int32) (t_papered : Int32) (t_isKept : Int32) (a_t_tree : Nat → Int32) (p0 : Int32) (r0 : Int32) (hF : F_X9_valence t_leaves t_splits a_t_tree p0 = some r0) : Met l yX9_valence wsX9_valence ({ frames := 3, cells := 0, slots := 0, locals := 68 }) (k_pre G (k_T cI cJ cD cH) [(h_t, .inr (8, [.int t_genus, .int t_marks, .ref h_t_powers, .int t_leaves, .int t_splits, .ref h_t_tree, .ref h_t_ahead, .ref h_t_behind, .ref h_t_before, .int t_done, .int t_undone, .ref h_t_rows, .ref h_t_met, .ref h_t_metSizes, .int t_metMany, .int t_treesSeen, .ref h_t_chosen, .ref h_t_tape, .int t_taped, .int t_place, .int t_isWrong, .int t_toldGenus, .int t_toldMarks, .ref h_t_toldPowers, .ref h_t_powerPlaces, .int t_isTree, .int t_toldLeaves, .int t_leavesPlace, .int t_toldSplits, .ref h_t_toldTree, .ref h_t_splitPlaces, .ref h_t_layers, .int t_isWhy, .ref h_t_paper, .int t_papered, .ref h_t_held, .ref h_t_numbers, .ref h_t_sizes, .ref h_t_heldLeaves, .ref h_t_items, .ref h_t_kept, .int t_isKept])), (h_t_tree, .inl (cI, 3, .inl a_t_tree))] sz [.ref h_t, .int p0]) (va_Qi (fun r (_ : Unit) => r = r0 ∧ True) (fun _ t => va_P G vwCl [(h_t, .inr (8, [.int t_genus, .int t_marks, .ref h_t_powers, .int t_leaves, .int t_splits, .ref h_t_tree, .ref h_t_ahead, .ref h_t_behind, .ref h_t_before, .int t_done, .int t_undone, .ref h_t_rows, .ref h_t_met, .ref h_t_metSizes, .int t_metMany, .int t_treesSeen, .ref h_t_chosen, .ref h_t_tape, .int t_taped, .int t_place, .int t_isWrong, .int t_toldGenus, .int t_toldMarks, .ref h_t_toldPowers, .ref h_t_powerPlaces, .int t_isTree, .int t_toldLeaves, .int t_leavesPlace, .int t_toldSplits, .ref h_t_toldTree, .ref h_t_splitPlaces, .ref h_t_layers, .int t_isWhy, .ref h_t_paper, .int t_papered, .ref h_t_held, .ref h_t_numbers, .ref h_t_sizes, .ref h_t_heldLeaves, .ref h_t_items, .ref h_t_kept, .int t_isKept])), (h_t_tree, .inl (cI, 3, .inl a_t_tree))] t.heap) (va_A [(h_t, .inr (8, [.int t_genus, .int t_marks, .ref h_t_powers, .int t_leaves, .int t_splits, .ref h_t_tree, .ref h_t_ahead, .ref h_t_behind, .ref h_t_before, .int t_done, .int t_undone, .ref h_t_rows, .ref h_t_met, .ref h_t_metSizes, .int t_metMany, .int t_treesSeen, .ref h_t_chosen, .ref h_t_tape, .int t_taped, .int t_place, .int t_isWrong, .int t_toldGenus, .int t_toldMarks, .ref h_t_toldPowers, .ref h_t_powerPlaces, .int t_isTree, .int t_toldLeaves, .int t_leavesPlace, .int t_toldSplits, .ref h_t_toldTree, .ref h_t_splitPlaces, .ref h_t_layers, .int t_isWhy, .ref h_t_paper, .int t_papered, .ref h_t_held, .ref h_t_numbers, .ref h_t_sizes, .ref h_t_heldLeaves, .ref h_t_items, .ref h_t_kept, .int t_isKept])), (h_t_tree, .inl (cI, 3, .inl a_t_tree))] sz)) 0 0 (va_A [(h_t, .inr (8, [.int t_genus, .int t_marks, .ref h_t_powers, .int t_leaves, .int t_splits, .ref h_t_tree, .ref h_t_ahead, .ref h_t_behind, .ref h_t_before, .int t_done, .int t_undone, .ref h_t_rows, .ref h_t_met, .ref h_t_metSizes, .int t_metMany, .int t_treesSeen, .ref h_t_chosen, .ref h_t_tape, .int t_taped, .int t_place, .int t_isWrong, .int t_toldGenus, .int t_toldMarks, .ref h_t_toldPowers, .ref h_t_powerPlaces, .int t_isTree, .int t_toldLeaves, .int t_leavesPlace, .int t_toldSplits, .ref h_t_toldTree, .ref h_t_splitPlaces, .ref h_t_layers, .int t_isWhy, .ref h_t_paper, .int t_papered, .ref h_t_held, .ref h_t_numbers, .ref h_t_sizes, .ref h_t_heldLeaves, .ref h_t_items, .ref h_t_kept, .int t_isKept])), (h_t_tree, .inl (cI, 3, .inl a_t_tree))] sz) := by
  refine Met.ofW (cc := cX9_valence) (maxL := 2) (ret := (some .int)) (by decide) rfl ?_
  intro p e s m args below meth c s₁ B hml hv
  obtain ⟨rfl, hsz, hP, hK, hD0⟩ := hv
  have hx := B.exec
  have hb := B.bytes
  have hr := B.returns
  have hts := atoms_spec (ws := wsX9_valence) B.pre
  have hta : ∀ w ∈ wA, w.before ([.ref h_t, .int p0] : List Value).toArray s = true := hta_of hts
  have hown : s.vm.findClass RX9 = some m.cls := findClass_of_methodNamed B.named
  have hlocks := B.notSynchronized
  subst hsz
  have hD := hD0.self (sz := s.heap.size)
  generalize hAe : va_A [(h_t, .inr (8, [.int t_genus, .int t_marks, .ref h_t_powers, .int t_leaves, .int t_splits, .ref h_t_tree, .ref h_t_ahead, .ref h_t_behind, .ref h_t_before, .int t_done, .int t_undone, .ref h_t_rows, .ref h_t_met, .ref h_t_metSizes, .int t_metMany, .int t_treesSeen, .ref h_t_chosen, .ref h_t_tape, .int t_taped, .int t_place, .int t_isWrong, .int t_toldGenus, .int t_toldMarks, .ref h_t_toldPowers, .ref h_t_powerPlaces, .int t_isTree, .int t_toldLeaves, .int t_leavesPlace, .int t_toldSplits, .ref h_t_toldTree, .ref h_t_splitPlaces, .ref h_t_layers, .int t_isWhy, .ref h_t_paper, .int t_papered, .ref h_t_held, .ref h_t_numbers, .ref h_t_sizes, .ref h_t_heldLeaves, .ref h_t_items, .ref h_t_kept, .int t_isKept])), (h_t_tree, .inl (cI, 3, .inl a_t_tree))] s.heap.size = A at hD ⊢
  have hA : ∀ q : Nat, s.heap.size ≤ q → A q := fun q h => by rw [← hAe]; exact Or.inr h
  have hS : va_S A s.heap s.heap [] := va_S.rf
  have hl := lv_entry ([.ref h_t, .int p0]) (n := 2) (Nat.le_of_ble_eq_true rfl)
  rw [lg_entry_eq]
  generalize (lg_sl ([.ref h_t, .int p0]) ++ List.replicate (2 - (lg_sl ([.ref h_t, .int p0])).length) Slot.unset).toArray = ls at hl ⊢
  have hl : lv_has ls 2 [(0, .ref h_t), (1, .int p0)] := hl
  have hinX9 : ∀ w ∈ wsX90, w ∈ wsX9_valence := hin_of in_X9
  have h := hF
  unfold F_X9_valence at h
  refine lv_iload_n hx hb dX9_valence_0 rfl (lv_at hl 1 rfl) ?_
  refine lv_if_eq (tgt := 17) hx hb dX9_valence_1 (by decide) (fun c7 => ?_) (fun c7 => ?_)
  · have h := it_p h c7
    exact tJ_X9_valence_17 hx hb hr hml hts hown hlocks hK hA  _ _ _ hP hD hS (lv_sub hl [0, 1] rfl) h
  have h := it_n h c7
  refine lv_iload_n hx hb dX9_valence_4 rfl (lv_at hl 1 rfl) ?_
  refine lv_aload_n hx hb dX9_valence_5 rfl (lv_at hl 0 rfl) ?_
  refine va_get (D := G) (ci := 8) (v := .int t_leaves) (C := RX9) (T := TX9) (N := 42) hx hb hts hinX9 hown hK hP 0 rfl rfl 3 (by decide) (hta _ mw_609) (fun _ h9 => h9) rfl dX9_valence_6 ?_
  obtain ⟨x8, hx8, h⟩ := bd_e h
  try dsimp only at h
  refine k_SiU (n := 2) (As := [.int p0, .int t_leaves]) (rest := []) hx hb hml hown hts (c_X9_isSplit l G cI cJ cD cH s.heap.size p0 t_leaves x8 hx8) gX9_valence_X9_isSplit rfl rfl rfl (by decide +kernel) ⟨by first | exact Nat.le_of_ble_eq_true rfl | (simp only [headSpec]; omega), by first | exact Nat.le_of_ble_eq_true rfl | (simp only [headSpec]; omega)⟩ hK hP hD hS hA [] (by decide) rfl rfl rfl hl.1 (Nat.le_of_ble_eq_true rfl) dX9_valence_9 ⟨Nat.zero_le _, Nat.zero_le _⟩ (fun hp8 H locs hP hS => ?_)
  refine lv_if_ne (tgt := 17) hx hb dX9_valence_12 (by decide) (fun c9 => ?_) (fun c9 => ?_)
  · have h := it_n h c9
    exact tJ_X9_valence_17 hx hb hr hml hts hown hlocks hK hA  _ _ _ hP hD hS (lv_sub hl [0, 1] rfl) h
  have h := it_p h c9
  refine lv_iconst (v := (-1 : Int32)) hx hb dX9_valence_15 (by decide) ?_
  have h9 := Option.some.inj h
  have e9 : (-1 : Int32) = r0 := congrArg (fun z9 => z9) h9
  rw [← e9]
  exact k_iret hx hb hr hlocks hP hS rfl dX9_valence_16

/-! X9_finds -/
set_option maxHeartbeats 4000000 in
set_option maxRecDepth 100000 in
theorem c_X9_finds (l : Launch) : ∀ (d : Nat) (G : va_G) (cI cJ cD cH : ClassId) (sz : Nat) (h_t : Nat) (h_t_chosen : Nat) (h_t_powers : Nat) (h_t_tree : Nat) (h_t_ahead : Nat) (h_t_behind : Nat) (h_t_before : Nat) (h_t_rows : Nat) (h_t_met : Nat) (h_t_metSizes : Nat) (h_t_tape : Nat) (h_t_toldPowers : Nat) (h_t_powerPlaces : Nat) (h_t_toldTree : Nat) (h_t_splitPlaces : Nat) (h_t_layers : Nat) (h_t_paper : Nat) (h_t_held : Nat) (h_t_numbers : Nat) (h_t_sizes : Nat) (h_t_heldLeaves : Nat) (h_t_items : Nat) (h_t_kept : Nat) (t_genus : Int32) (t_marks : Int32) (t_leaves : Int32) (t_splits : Int32) (t_done : Int32) (t_undone : Int32) (t_metMany : Int32) (t_treesSeen : Int32) (t_taped : Int32) (t_place : Int32) (t_isWrong : Int32) (t_toldGenus : Int32) (t_toldMarks : Int32) (t_isTree : Int32) (t_toldLeaves : Int32) (t_leavesPlace : Int32) (t_toldSplits : Int32) (t_isWhy : Int32) (t_papered : Int32) (t_isKept : Int32) (a_t_chosen : Nat → Int32) (p0 : Int32) (p1 : Int32) (p2 : Int32) (p3 : Int32) (p4 : Int32) (r0 : Int32) (w0 : Nat → Int32) (w1 : Int32) (hF : F_X9_finds d t_treesSeen a_t_chosen p0 p1 p2 p3 p4 = some (r0, w0, w1)), Met l yX9_finds wsX9_finds ({ frames := d + 2, cells := 0, slots := 0, locals := 28 * d + 46 }) (k_pre G (k_T cI cJ cD cH) [(h_t, .inr (8, [.int t_genus, .int t_marks, .ref h_t_powers, .int t_leaves, .int t_splits, .ref h_t_tree, .ref h_t_ahead, .ref h_t_behind, .ref h_t_before, .int t_done, .int t_undone, .ref h_t_rows, .ref h_t_met, .ref h_t_metSizes, .int t_metMany, .int t_treesSeen, .ref h_t_chosen, .ref h_t_tape, .int t_taped, .int t_place, .int t_isWrong, .int t_toldGenus, .int t_toldMarks, .ref h_t_toldPowers, .ref h_t_powerPlaces, .int t_isTree, .int t_toldLeaves, .int t_leavesPlace, .int t_toldSplits, .ref h_t_toldTree, .ref h_t_splitPlaces, .ref h_t_layers, .int t_isWhy, .ref h_t_paper, .int t_papered, .ref h_t_held, .ref h_t_numbers, .ref h_t_sizes, .ref h_t_heldLeaves, .ref h_t_items, .ref h_t_kept, .int t_isKept])), (h_t_chosen, .inl (cI, 10, .inl a_t_chosen))] sz [.ref h_t, .int p0, .int p1, .int p2, .int p3, .int p4]) (va_Qi (fun r (_ : Unit) => r = r0 ∧ narrow .boolean (.int r0) = .int r0) (fun _ t => va_P G vwCl [(h_t, .inr (8, [.int t_genus, .int t_marks, .ref h_t_powers, .int t_leaves, .int t_splits, .ref h_t_tree, .ref h_t_ahead, .ref h_t_behind, .ref h_t_before, .int t_done, .int t_undone, .ref h_t_rows, .ref h_t_met, .ref h_t_metSizes, .int t_metMany, .int w1, .ref h_t_chosen, .ref h_t_tape, .int t_taped, .int t_place, .int t_isWrong, .int t_toldGenus, .int t_toldMarks, .ref h_t_toldPowers, .ref h_t_powerPlaces, .int t_isTree, .int t_toldLeaves, .int t_leavesPlace, .int t_toldSplits, .ref h_t_toldTree, .ref h_t_splitPlaces, .ref h_t_layers, .int t_isWhy, .ref h_t_paper, .int t_papered, .ref h_t_held, .ref h_t_numbers, .ref h_t_sizes, .ref h_t_heldLeaves, .ref h_t_items, .ref h_t_kept, .int t_isKept])), (h_t_chosen, .inl (cI, 10, .inl w0))] t.heap) (va_A [(h_t, .inr (8, [.int t_genus, .int t_marks, .ref h_t_powers, .int t_leaves, .int t_splits, .ref h_t_tree, .ref h_t_ahead, .ref h_t_behind, .ref h_t_before, .int t_done, .int t_undone, .ref h_t_rows, .ref h_t_met, .ref h_t_metSizes, .int t_metMany, .int t_treesSeen, .ref h_t_chosen, .ref h_t_tape, .int t_taped, .int t_place, .int t_isWrong, .int t_toldGenus, .int t_toldMarks, .ref h_t_toldPowers, .ref h_t_powerPlaces, .int t_isTree, .int t_toldLeaves, .int t_leavesPlace, .int t_toldSplits, .ref h_t_toldTree, .ref h_t_splitPlaces, .ref h_t_layers, .int t_isWhy, .ref h_t_paper, .int t_papered, .ref h_t_held, .ref h_t_numbers, .ref h_t_sizes, .ref h_t_heldLeaves, .ref h_t_items, .ref h_t_kept, .int t_isKept])), (h_t_chosen, .inl (cI, 10, .inl a_t_chosen))] sz)) 0 0 (va_A [(h_t, .inr (8, [.int t_genus, .int t_marks, .ref h_t_powers, .int t_leaves, .int t_splits, .ref h_t_tree, .ref h_t_ahead, .ref h_t_behind, .ref h_t_before, .int t_done, .int t_undone, .ref h_t_rows, .ref h_t_met, .ref h_t_metSizes, .int t_metMany, .int t_treesSeen, .ref h_t_chosen, .ref h_t_tape, .int t_taped, .int t_place, .int t_isWrong, .int t_toldGenus, .int t_toldMarks, .ref h_t_toldPowers, .ref h_t_powerPlaces, .int t_isTree, .int t_toldLeaves, .int t_leavesPlace, .int t_toldSplits, .ref h_t_toldTree, .ref h_t_splitPlaces, .ref h_t_layers, .int t_isWhy, .ref h_t_paper, .int t_papered, .ref h_t_held, .ref h_t_numbers, .ref h_t_sizes, .ref h_t_heldLeaves, .ref h_t_items, .ref h_t_kept, .int t_isKept])), (h_t_chosen, .inl (cI, 10, .inl a_t_chosen))] sz) := by
  intro d
  induction d with
  | zero => intro G cI cJ cD cH sz h_t h_t_chosen h_t_powers h_t_tree h_t_ahead h_t_behind h_t_before h_t_rows h_t_met h_t_metSizes h_t_tape h_t_toldPowers h_t_powerPlaces h_t_toldTree h_t_splitPlaces h_t_layers h_t_paper h_t_held h_t_numbers h_t_sizes h_t_heldLeaves h_t_items h_t_kept t_genus t_marks t_leaves t_splits t_done t_undone t_metMany t_treesSeen t_taped t_place t_isWrong t_toldGenus t_toldMarks t_isTree t_toldLeaves t_leavesPlace t_toldSplits t_isWhy t_papered t_isKept a_t_chosen p0 p1 p2 p3 p4 r0 w0 w1 hF; cases hF
  | succ d ihd =>
    intro G cI cJ cD cH sz h_t h_t_chosen h_t_powers h_t_tree h_t_ahead h_t_behind h_t_before h_t_rows h_t_met h_t_metSizes h_t_tape h_t_toldPowers h_t_powerPlaces h_t_toldTree h_t_splitPlaces h_t_layers h_t_paper h_t_held h_t_numbers h_t_sizes h_t_heldLeaves h_t_items h_t_kept t_genus t_marks t_leaves t_splits t_done t_undone t_metMany t_treesSeen t_taped t_place t_isWrong t_toldGenus t_toldMarks t_isTree t_toldLeaves t_leavesPlace t_toldSplits t_isWhy t_papered t_isKept a_t_chosen p0 p1 p2 p3 p4 r0 w0 w1 hF
    refine Met.ofW (cc := cX9_finds) (maxL := 9) (ret := (some .boolean)) (by decide) rfl ?_
    intro p e s m args below meth c s₁ B hml hv
    obtain ⟨rfl, hsz, hP, hK, hD0⟩ := hv
    have hx := B.exec
    have hb := B.bytes
    have hr := B.returns
    have hts := atoms_spec (ws := wsX9_finds) B.pre
    have hta : ∀ w ∈ wA, w.before ([.ref h_t, .int p0, .int p1, .int p2, .int p3, .int p4] : List Value).toArray s = true := hta_of hts
    have hown : s.vm.findClass RX9 = some m.cls := findClass_of_methodNamed B.named
    have hlocks := B.notSynchronized
    subst hsz
    have hD := hD0.self (sz := s.heap.size)
    generalize hAe : va_A [(h_t, .inr (8, [.int t_genus, .int t_marks, .ref h_t_powers, .int t_leaves, .int t_splits, .ref h_t_tree, .ref h_t_ahead, .ref h_t_behind, .ref h_t_before, .int t_done, .int t_undone, .ref h_t_rows, .ref h_t_met, .ref h_t_metSizes, .int t_metMany, .int t_treesSeen, .ref h_t_chosen, .ref h_t_tape, .int t_taped, .int t_place, .int t_isWrong, .int t_toldGenus, .int t_toldMarks, .ref h_t_toldPowers, .ref h_t_powerPlaces, .int t_isTree, .int t_toldLeaves, .int t_leavesPlace, .int t_toldSplits, .ref h_t_toldTree, .ref h_t_splitPlaces, .ref h_t_layers, .int t_isWhy, .ref h_t_paper, .int t_papered, .ref h_t_held, .ref h_t_numbers, .ref h_t_sizes, .ref h_t_heldLeaves, .ref h_t_items, .ref h_t_kept, .int t_isKept])), (h_t_chosen, .inl (cI, 10, .inl a_t_chosen))] s.heap.size = A at hD ⊢
    have hA : ∀ q : Nat, s.heap.size ≤ q → A q := fun q h => by rw [← hAe]; exact Or.inr h
    have hS : va_S A s.heap s.heap [] := va_S.rf
    have hl := lv_entry ([.ref h_t, .int p0, .int p1, .int p2, .int p3, .int p4]) (n := 9) (Nat.le_of_ble_eq_true rfl)
    rw [lg_entry_eq]
    generalize (lg_sl ([.ref h_t, .int p0, .int p1, .int p2, .int p3, .int p4]) ++ List.replicate (9 - (lg_sl ([.ref h_t, .int p0, .int p1, .int p2, .int p3, .int p4])).length) Slot.unset).toArray = ls at hl ⊢
    have hl : lv_has ls 9 [(0, .ref h_t), (1, .int p0), (2, .int p1), (3, .int p2), (4, .int p3), (5, .int p4)] := hl
    have hinX9 : ∀ w ∈ wsX90, w ∈ wsX9_finds := hin_of in_X9
    have h : G_X9_finds (F_X9_finds d) t_treesSeen a_t_chosen p0 p1 p2 p3 p4 = some (r0, w0, w1) := hF
    unfold G_X9_finds at h
    refine lv_iload_n hx hb dX9_finds_0 rfl (lv_at hl 3 rfl) ?_
    refine lv_iload hx hb dX9_finds_1 (lv_at hl 4 rfl) ?_
    refine lv_icmp_ne (tgt := 33) hx hb dX9_finds_3 (by decide) (fun c1 => ?_) (fun c1 => ?_)
    rotate_left
    · have h := it_p h c1
      refine lv_aload_n hx hb dX9_finds_6 rfl (lv_at hl 0 rfl) ?_
      refine lv_dup hx hb dX9_finds_7 rfl ?_
      refine va_get (D := G) (ci := 8) (v := .int t_treesSeen) (C := RX9) (T := TX9) (N := 42) hx hb hts hinX9 hown hK hP 0 rfl rfl 15 (by decide) (hta _ mw_786) (fun _ h9 => h9) rfl dX9_finds_8 ?_
      refine lv_iconst (v := (1 : Int32)) hx hb dX9_finds_11 (by decide) ?_
      refine lv_iadd hx hb dX9_finds_12 ?_
      refine va_put (D := G) (ci := 8) (v := .int (t_treesSeen + (1 : Int32))) (ty := .int) (C := RX9) (T := TX9) (N := 42) hx hb hts hinX9 tyX9 tyX9_ok nmX9 hown hK hP hD hS 0 rfl rfl 15 (by decide) (hta _ mw_786) (fun _ h9 => h9) rfl (by decide +kernel) rfl rfl (Nat.le_of_ble_eq_true rfl) dX9_finds_13 (fun H locs hP hD hS => ?_)
      have hP : va_P G vwCl [(h_t, .inr (8, [.int t_genus, .int t_marks, .ref h_t_powers, .int t_leaves, .int t_splits, .ref h_t_tree, .ref h_t_ahead, .ref h_t_behind, .ref h_t_before, .int t_done, .int t_undone, .ref h_t_rows, .ref h_t_met, .ref h_t_metSizes, .int t_metMany, .int (t_treesSeen + (1 : Int32)), .ref h_t_chosen, .ref h_t_tape, .int t_taped, .int t_place, .int t_isWrong, .int t_toldGenus, .int t_toldMarks, .ref h_t_toldPowers, .ref h_t_powerPlaces, .int t_isTree, .int t_toldLeaves, .int t_leavesPlace, .int t_toldSplits, .ref h_t_toldTree, .ref h_t_splitPlaces, .ref h_t_layers, .int t_isWhy, .ref h_t_paper, .int t_papered, .ref h_t_held, .ref h_t_numbers, .ref h_t_sizes, .ref h_t_heldLeaves, .ref h_t_items, .ref h_t_kept, .int t_isKept])), (h_t_chosen, .inl (cI, 10, .inl a_t_chosen))] H := hP
      have hD : va_D A [(h_t, .inr (8, [.int t_genus, .int t_marks, .ref h_t_powers, .int t_leaves, .int t_splits, .ref h_t_tree, .ref h_t_ahead, .ref h_t_behind, .ref h_t_before, .int t_done, .int t_undone, .ref h_t_rows, .ref h_t_met, .ref h_t_metSizes, .int t_metMany, .int (t_treesSeen + (1 : Int32)), .ref h_t_chosen, .ref h_t_tape, .int t_taped, .int t_place, .int t_isWrong, .int t_toldGenus, .int t_toldMarks, .ref h_t_toldPowers, .ref h_t_powerPlaces, .int t_isTree, .int t_toldLeaves, .int t_leavesPlace, .int t_toldSplits, .ref h_t_toldTree, .ref h_t_splitPlaces, .ref h_t_layers, .int t_isWhy, .ref h_t_paper, .int t_papered, .ref h_t_held, .ref h_t_numbers, .ref h_t_sizes, .ref h_t_heldLeaves, .ref h_t_items, .ref h_t_kept, .int t_isKept])), (h_t_chosen, .inl (cI, 10, .inl a_t_chosen))] := hD
      refine lv_aload_n hx hb dX9_finds_16 rfl (lv_at hl 0 rfl) ?_
      refine va_get (D := G) (ci := 8) (v := .int (t_treesSeen + (1 : Int32))) (C := RX9) (T := TX9) (N := 42) hx hb hts hinX9 hown hK hP 0 rfl rfl 15 (by decide) (hta _ mw_786) (fun _ h9 => h9) rfl dX9_finds_17 ?_
      refine lv_iconst (v := (1 : Int32)) hx hb dX9_finds_20 (by decide) ?_
      refine lv_isub hx hb dX9_finds_21 ?_
      refine lv_iload hx hb dX9_finds_22 (lv_at hl 5 rfl) ?_
      refine lv_icmp_ne (tgt := 31) hx hb dX9_finds_24 (by decide) (fun c14 => ?_) (fun c14 => ?_)
      · have h := it_n h c14
        refine lv_iconst (v := (0 : Int32)) hx hb dX9_finds_31 (by decide) ?_
        have h9 := Option.some.inj h
        have e9 : (0 : Int32) = r0 := congrArg (fun z9 => z9.1) h9
        rw [← e9]
        have e9 : a_t_chosen = w0 := congrArg (fun z9 => z9.2.1) h9
        rw [← e9]
        have e9 : (t_treesSeen + (1 : Int32)) = w1 := congrArg (fun z9 => z9.2.2) h9
        rw [← e9]
        exact k_zret hx hb hr hlocks hP hS rfl rfl dX9_finds_32
      have h := it_p h c14
      refine lv_iconst (v := (1 : Int32)) hx hb dX9_finds_27 (by decide) ?_
      refine lv_goto (tgt := 32) hx hb dX9_finds_28 (by decide) ?_
      have h9 := Option.some.inj h
      have e9 : (1 : Int32) = r0 := congrArg (fun z9 => z9.1) h9
      rw [← e9]
      have e9 : a_t_chosen = w0 := congrArg (fun z9 => z9.2.1) h9
      rw [← e9]
      have e9 : (t_treesSeen + (1 : Int32)) = w1 := congrArg (fun z9 => z9.2.2) h9
      rw [← e9]
      exact k_zret hx hb hr hlocks hP hS rfl rfl dX9_finds_32
    have h := it_n h c1
    refine lv_iload_n hx hb dX9_finds_33 rfl (lv_at hl 2 rfl) ?_
    refine lv_istore (lv' := [(6, .int p1), (0, .ref h_t), (1, .int p0), (2, .int p1), (3, .int p2), (4, .int p3), (5, .int p4)]) hx hb dX9_finds_34 hl (by decide) rfl (fun ls hl => ?_)
    have hK_X9_finds_36_144 : ∀  (vK36_144_0 : Nat → Int32) (vK36_144_1 : Int32) (H : Heap) (locs : List Loc) (ls : Array Slot), va_P G vwCl [(h_t, .inr (8, [.int t_genus, .int t_marks, .ref h_t_powers, .int t_leaves, .int t_splits, .ref h_t_tree, .ref h_t_ahead, .ref h_t_behind, .ref h_t_before, .int t_done, .int t_undone, .ref h_t_rows, .ref h_t_met, .ref h_t_metSizes, .int t_metMany, .int vK36_144_1, .ref h_t_chosen, .ref h_t_tape, .int t_taped, .int t_place, .int t_isWrong, .int t_toldGenus, .int t_toldMarks, .ref h_t_toldPowers, .ref h_t_powerPlaces, .int t_isTree, .int t_toldLeaves, .int t_leavesPlace, .int t_toldSplits, .ref h_t_toldTree, .ref h_t_splitPlaces, .ref h_t_layers, .int t_isWhy, .ref h_t_paper, .int t_papered, .ref h_t_held, .ref h_t_numbers, .ref h_t_sizes, .ref h_t_heldLeaves, .ref h_t_items, .ref h_t_kept, .int t_isKept])), (h_t_chosen, .inl (cI, 10, .inl vK36_144_0))] H → va_D A [(h_t, .inr (8, [.int t_genus, .int t_marks, .ref h_t_powers, .int t_leaves, .int t_splits, .ref h_t_tree, .ref h_t_ahead, .ref h_t_behind, .ref h_t_before, .int t_done, .int t_undone, .ref h_t_rows, .ref h_t_met, .ref h_t_metSizes, .int t_metMany, .int vK36_144_1, .ref h_t_chosen, .ref h_t_tape, .int t_taped, .int t_place, .int t_isWrong, .int t_toldGenus, .int t_toldMarks, .ref h_t_toldPowers, .ref h_t_powerPlaces, .int t_isTree, .int t_toldLeaves, .int t_leavesPlace, .int t_toldSplits, .ref h_t_toldTree, .ref h_t_splitPlaces, .ref h_t_layers, .int t_isWhy, .ref h_t_paper, .int t_papered, .ref h_t_held, .ref h_t_numbers, .ref h_t_sizes, .ref h_t_heldLeaves, .ref h_t_items, .ref h_t_kept, .int t_isKept])), (h_t_chosen, .inl (cI, 10, .inl vK36_144_0))] → va_S A s.heap H locs → lv_has ls 9 [] → K_X9_finds_36_144 vK36_144_0 vK36_144_1 = some (r0, w0, w1) → W p l e (headSpec wsX9_finds ({ frames := (d + 1) + 2, cells := 0, slots := 0, locals := 28 * (d + 1) + 46 })).room s m ([.ref h_t, .int p0, .int p1, .int p2, .int p3, .int p4] : List Value).toArray below meth c H locs 0 0 (MQ below (va_Qi (fun r (_ : Unit) => r = r0 ∧ narrow .boolean (.int r0) = .int r0) (fun _ t => va_P G vwCl [(h_t, .inr (8, [.int t_genus, .int t_marks, .ref h_t_powers, .int t_leaves, .int t_splits, .ref h_t_tree, .ref h_t_ahead, .ref h_t_behind, .ref h_t_before, .int t_done, .int t_undone, .ref h_t_rows, .ref h_t_met, .ref h_t_metSizes, .int t_metMany, .int w1, .ref h_t_chosen, .ref h_t_tape, .int t_taped, .int t_place, .int t_isWrong, .int t_toldGenus, .int t_toldMarks, .ref h_t_toldPowers, .ref h_t_powerPlaces, .int t_isTree, .int t_toldLeaves, .int t_leavesPlace, .int t_toldSplits, .ref h_t_toldTree, .ref h_t_splitPlaces, .ref h_t_layers, .int t_isWhy, .ref h_t_paper, .int t_papered, .ref h_t_held, .ref h_t_numbers, .ref h_t_sizes, .ref h_t_heldLeaves, .ref h_t_items, .ref h_t_kept, .int t_isKept])), (h_t_chosen, .inl (cI, 10, .inl w0))] t.heap) A) ([.ref h_t, .int p0, .int p1, .int p2, .int p3, .int p4] : List Value).toArray s 0 0 A) (F0 m 144 ls []) := by
      intro vK36_144_0 vK36_144_1 H locs ls hP hD hS hl h
      unfold K_X9_finds_36_144 at h
      refine lv_iconst (v := (0 : Int32)) hx hb dX9_finds_144 (by decide) ?_
      have h9 := Option.some.inj h
      have e9 : (0 : Int32) = r0 := congrArg (fun z9 => z9.1) h9
      rw [← e9]
      have e9 : vK36_144_0 = w0 := congrArg (fun z9 => z9.2.1) h9
      rw [← e9]
      have e9 : vK36_144_1 = w1 := congrArg (fun z9 => z9.2.2) h9
      rw [← e9]
      exact k_zret hx hb hr hlocks hP hS rfl rfl dX9_finds_145
    have hL36 : ∀ (n36 : Nat) (vL36_0 : Nat → Int32) (vL36_1 : Int32) (vL36_2 : Int32) (H : Heap) (locs : List Loc) (ls : Array Slot), va_P G vwCl [(h_t, .inr (8, [.int t_genus, .int t_marks, .ref h_t_powers, .int t_leaves, .int t_splits, .ref h_t_tree, .ref h_t_ahead, .ref h_t_behind, .ref h_t_before, .int t_done, .int t_undone, .ref h_t_rows, .ref h_t_met, .ref h_t_metSizes, .int t_metMany, .int vL36_1, .ref h_t_chosen, .ref h_t_tape, .int t_taped, .int t_place, .int t_isWrong, .int t_toldGenus, .int t_toldMarks, .ref h_t_toldPowers, .ref h_t_powerPlaces, .int t_isTree, .int t_toldLeaves, .int t_leavesPlace, .int t_toldSplits, .ref h_t_toldTree, .ref h_t_splitPlaces, .ref h_t_layers, .int t_isWhy, .ref h_t_paper, .int t_papered, .ref h_t_held, .ref h_t_numbers, .ref h_t_sizes, .ref h_t_heldLeaves, .ref h_t_items, .ref h_t_kept, .int t_isKept])), (h_t_chosen, .inl (cI, 10, .inl vL36_0))] H → va_D A [(h_t, .inr (8, [.int t_genus, .int t_marks, .ref h_t_powers, .int t_leaves, .int t_splits, .ref h_t_tree, .ref h_t_ahead, .ref h_t_behind, .ref h_t_before, .int t_done, .int t_undone, .ref h_t_rows, .ref h_t_met, .ref h_t_metSizes, .int t_metMany, .int vL36_1, .ref h_t_chosen, .ref h_t_tape, .int t_taped, .int t_place, .int t_isWrong, .int t_toldGenus, .int t_toldMarks, .ref h_t_toldPowers, .ref h_t_powerPlaces, .int t_isTree, .int t_toldLeaves, .int t_leavesPlace, .int t_toldSplits, .ref h_t_toldTree, .ref h_t_splitPlaces, .ref h_t_layers, .int t_isWhy, .ref h_t_paper, .int t_papered, .ref h_t_held, .ref h_t_numbers, .ref h_t_sizes, .ref h_t_heldLeaves, .ref h_t_items, .ref h_t_kept, .int t_isKept])), (h_t_chosen, .inl (cI, 10, .inl vL36_0))] → va_S A s.heap H locs → lv_has ls 9 [(0, .ref h_t), (1, .int p0), (3, .int p2), (4, .int p3), (5, .int p4), (6, .int vL36_2)] → wq3 (B_X9_finds_36 (F_X9_finds d) p0 p2 p3 p4 K_X9_finds_36_144) n36 vL36_0 vL36_1 vL36_2 = some (r0, w0, w1) → W p l e (headSpec wsX9_finds ({ frames := (d + 1) + 2, cells := 0, slots := 0, locals := 28 * (d + 1) + 46 })).room s m ([.ref h_t, .int p0, .int p1, .int p2, .int p3, .int p4] : List Value).toArray below meth c H locs 0 0 (MQ below (va_Qi (fun r (_ : Unit) => r = r0 ∧ narrow .boolean (.int r0) = .int r0) (fun _ t => va_P G vwCl [(h_t, .inr (8, [.int t_genus, .int t_marks, .ref h_t_powers, .int t_leaves, .int t_splits, .ref h_t_tree, .ref h_t_ahead, .ref h_t_behind, .ref h_t_before, .int t_done, .int t_undone, .ref h_t_rows, .ref h_t_met, .ref h_t_metSizes, .int t_metMany, .int w1, .ref h_t_chosen, .ref h_t_tape, .int t_taped, .int t_place, .int t_isWrong, .int t_toldGenus, .int t_toldMarks, .ref h_t_toldPowers, .ref h_t_powerPlaces, .int t_isTree, .int t_toldLeaves, .int t_leavesPlace, .int t_toldSplits, .ref h_t_toldTree, .ref h_t_splitPlaces, .ref h_t_layers, .int t_isWhy, .ref h_t_paper, .int t_papered, .ref h_t_held, .ref h_t_numbers, .ref h_t_sizes, .ref h_t_heldLeaves, .ref h_t_items, .ref h_t_kept, .int t_isKept])), (h_t_chosen, .inl (cI, 10, .inl w0))] t.heap) A) ([.ref h_t, .int p0, .int p1, .int p2, .int p3, .int p4] : List Value).toArray s 0 0 A) (F0 m 36 ls []) := by
      intro n36
      induction n36 with
      | zero => intro vL36_0 vL36_1 vL36_2 H locs ls hP hD hS hl h; exact wq3_0 h
      | succ n36 ih36 =>
        intro vL36_0 vL36_1 vL36_2 H locs ls hP hD hS hl h
        have h := wq3_s h
        unfold B_X9_finds_36 at h
        refine lv_iload hx hb dX9_finds_36 (lv_at hl 5 rfl) ?_
        refine lv_iconst (v := (1 : Int32)) hx hb dX9_finds_38 (by decide) ?_
        refine lv_iload_n hx hb dX9_finds_39 rfl (lv_at hl 1 rfl) ?_
        refine lv_ishl hx hb dX9_finds_40 ?_
        refine lv_icmp_ge (tgt := 144) hx hb dX9_finds_41 (by decide) (fun c2 => ?_) (fun c2 => ?_)
        · have h := it_p h c2
          exact hK_X9_finds_36_144 vL36_0 vL36_1 _ _ _ hP hD hS (lv_sub hl [] rfl) h
        have h := it_n h c2
        refine lv_iload hx hb dX9_finds_44 (lv_at hl 5 rfl) ?_
        refine lv_iload_n hx hb dX9_finds_46 rfl (lv_at hl 1 rfl) ?_
        obtain ⟨x3, hx3, h⟩ := bd_e h
        try dsimp only at h
        refine k_SiU (n := 2) (As := [.int vL36_2, .int p0]) (rest := []) hx hb hml hown hts (c_X9_isSplit l G cI cJ cD cH H.size vL36_2 p0 x3 hx3) gX9_finds_X9_isSplit rfl rfl rfl (by decide +kernel) ⟨by first | exact Nat.le_of_ble_eq_true rfl | (simp only [headSpec]; omega), by first | exact Nat.le_of_ble_eq_true rfl | (simp only [headSpec]; omega)⟩ hK hP hD hS hA [] (by decide) rfl rfl rfl hl.1 (Nat.le_of_ble_eq_true rfl) dX9_finds_47 ⟨Nat.zero_le _, Nat.zero_le _⟩ (fun hp3 H locs hP hS => ?_)
        refine lv_if_ne (tgt := 56) hx hb dX9_finds_50 (by decide) (fun c4 => ?_) (fun c4 => ?_)
        rotate_left
        · have h := it_p h c4
          refine lv_goto (tgt := 138) hx hb dX9_finds_53 (by decide) ?_
          refine lv_iinc (v := (vL36_2 + (1 : Int32))) (lv' := [(6, .int (vL36_2 + (1 : Int32))), (0, .ref h_t), (1, .int p0), (3, .int p2), (4, .int p3), (5, .int p4)]) hx hb dX9_finds_138 hl (k := 5) rfl (by first | rfl | decide) (by decide) rfl (fun ls hl => ?_)
          refine lv_goto (tgt := 36) hx hb dX9_finds_141 (by decide) ?_
          exact ih36 vL36_0 vL36_1 (vL36_2 + (1 : Int32)) _ _ _ hP hD hS (lv_sub hl [1, 2, 3, 4, 5, 0] rfl) h
        have h := it_n h c4
        refine lv_iconst (v := (1 : Int32)) hx hb dX9_finds_56 (by decide) ?_
        refine lv_istore (lv' := [(7, .int (1 : Int32)), (0, .ref h_t), (1, .int p0), (3, .int p2), (4, .int p3), (5, .int p4), (6, .int vL36_2)]) hx hb dX9_finds_57 hl (by decide) rfl (fun ls hl => ?_)
        refine lv_iconst (v := (0 : Int32)) hx hb dX9_finds_59 (by decide) ?_
        refine lv_istore (lv' := [(8, .int (0 : Int32)), (7, .int (1 : Int32)), (0, .ref h_t), (1, .int p0), (3, .int p2), (4, .int p3), (5, .int p4), (6, .int vL36_2)]) hx hb dX9_finds_60 hl (by decide) rfl (fun ls hl => ?_)
        have hK_X9_finds_62_101 : ∀  (vK62_101_0 : Int32) (H : Heap) (locs : List Loc) (ls : Array Slot), va_P G vwCl [(h_t, .inr (8, [.int t_genus, .int t_marks, .ref h_t_powers, .int t_leaves, .int t_splits, .ref h_t_tree, .ref h_t_ahead, .ref h_t_behind, .ref h_t_before, .int t_done, .int t_undone, .ref h_t_rows, .ref h_t_met, .ref h_t_metSizes, .int t_metMany, .int vL36_1, .ref h_t_chosen, .ref h_t_tape, .int t_taped, .int t_place, .int t_isWrong, .int t_toldGenus, .int t_toldMarks, .ref h_t_toldPowers, .ref h_t_powerPlaces, .int t_isTree, .int t_toldLeaves, .int t_leavesPlace, .int t_toldSplits, .ref h_t_toldTree, .ref h_t_splitPlaces, .ref h_t_layers, .int t_isWhy, .ref h_t_paper, .int t_papered, .ref h_t_held, .ref h_t_numbers, .ref h_t_sizes, .ref h_t_heldLeaves, .ref h_t_items, .ref h_t_kept, .int t_isKept])), (h_t_chosen, .inl (cI, 10, .inl vL36_0))] H → va_D A [(h_t, .inr (8, [.int t_genus, .int t_marks, .ref h_t_powers, .int t_leaves, .int t_splits, .ref h_t_tree, .ref h_t_ahead, .ref h_t_behind, .ref h_t_before, .int t_done, .int t_undone, .ref h_t_rows, .ref h_t_met, .ref h_t_metSizes, .int t_metMany, .int vL36_1, .ref h_t_chosen, .ref h_t_tape, .int t_taped, .int t_place, .int t_isWrong, .int t_toldGenus, .int t_toldMarks, .ref h_t_toldPowers, .ref h_t_powerPlaces, .int t_isTree, .int t_toldLeaves, .int t_leavesPlace, .int t_toldSplits, .ref h_t_toldTree, .ref h_t_splitPlaces, .ref h_t_layers, .int t_isWhy, .ref h_t_paper, .int t_papered, .ref h_t_held, .ref h_t_numbers, .ref h_t_sizes, .ref h_t_heldLeaves, .ref h_t_items, .ref h_t_kept, .int t_isKept])), (h_t_chosen, .inl (cI, 10, .inl vL36_0))] → va_S A s.heap H locs → lv_has ls 9 [(0, .ref h_t), (1, .int p0), (3, .int p2), (4, .int p3), (5, .int p4), (6, .int vL36_2), (7, .int vK62_101_0)] → K_X9_finds_62_101 (F_X9_finds d) p0 p2 p3 p4 vL36_0 vL36_1 vL36_2 (wq3 (B_X9_finds_36 (F_X9_finds d) p0 p2 p3 p4 K_X9_finds_36_144) n36) vK62_101_0 = some (r0, w0, w1) → W p l e (headSpec wsX9_finds ({ frames := (d + 1) + 2, cells := 0, slots := 0, locals := 28 * (d + 1) + 46 })).room s m ([.ref h_t, .int p0, .int p1, .int p2, .int p3, .int p4] : List Value).toArray below meth c H locs 0 0 (MQ below (va_Qi (fun r (_ : Unit) => r = r0 ∧ narrow .boolean (.int r0) = .int r0) (fun _ t => va_P G vwCl [(h_t, .inr (8, [.int t_genus, .int t_marks, .ref h_t_powers, .int t_leaves, .int t_splits, .ref h_t_tree, .ref h_t_ahead, .ref h_t_behind, .ref h_t_before, .int t_done, .int t_undone, .ref h_t_rows, .ref h_t_met, .ref h_t_metSizes, .int t_metMany, .int w1, .ref h_t_chosen, .ref h_t_tape, .int t_taped, .int t_place, .int t_isWrong, .int t_toldGenus, .int t_toldMarks, .ref h_t_toldPowers, .ref h_t_powerPlaces, .int t_isTree, .int t_toldLeaves, .int t_leavesPlace, .int t_toldSplits, .ref h_t_toldTree, .ref h_t_splitPlaces, .ref h_t_layers, .int t_isWhy, .ref h_t_paper, .int t_papered, .ref h_t_held, .ref h_t_numbers, .ref h_t_sizes, .ref h_t_heldLeaves, .ref h_t_items, .ref h_t_kept, .int t_isKept])), (h_t_chosen, .inl (cI, 10, .inl w0))] t.heap) A) ([.ref h_t, .int p0, .int p1, .int p2, .int p3, .int p4] : List Value).toArray s 0 0 A) (F0 m 101 ls []) := by
          intro vK62_101_0 H locs ls hP hD hS hl h
          unfold K_X9_finds_62_101 at h
          refine lv_iload hx hb dX9_finds_101 (lv_at hl 6 rfl) ?_
          refine lv_if_ne (tgt := 109) hx hb dX9_finds_103 (by decide) (fun c5 => ?_) (fun c5 => ?_)
          rotate_left
          · have h := it_p h c5
            refine lv_goto (tgt := 138) hx hb dX9_finds_106 (by decide) ?_
            refine lv_iinc (v := (vL36_2 + (1 : Int32))) (lv' := [(6, .int (vL36_2 + (1 : Int32))), (0, .ref h_t), (1, .int p0), (3, .int p2), (4, .int p3), (5, .int p4), (7, .int vK62_101_0)]) hx hb dX9_finds_138 hl (k := 5) rfl (by first | rfl | decide) (by decide) rfl (fun ls hl => ?_)
            refine lv_goto (tgt := 36) hx hb dX9_finds_141 (by decide) ?_
            exact ih36 vL36_0 vL36_1 (vL36_2 + (1 : Int32)) _ _ _ hP hD hS (lv_sub hl [1, 2, 3, 4, 5, 0] rfl) h
          have h := it_n h c5
          refine lv_aload_n hx hb dX9_finds_109 rfl (lv_at hl 0 rfl) ?_
          refine va_get (D := G) (ci := 8) (v := .ref h_t_chosen) (C := RX9) (T := TX9) (N := 42) hx hb hts hinX9 hown hK hP 0 rfl rfl 16 (by decide) (hta _ mw_618) (fun _ h9 => h9) rfl dX9_finds_110 ?_
          refine lv_iload_n hx hb dX9_finds_113 rfl (lv_at hl 2 rfl) ?_
          refine lv_iload hx hb dX9_finds_114 (lv_at hl 5 rfl) ?_
          obtain ⟨hn6, h⟩ := ck_e h
          refine va_iast hx hb hK hP hD hS 1 0 rfl rfl hn6 dX9_finds_116 (fun H locs hP hD hS => ?_)
          have hP : va_P G vwCl [(h_t, .inr (8, [.int t_genus, .int t_marks, .ref h_t_powers, .int t_leaves, .int t_splits, .ref h_t_tree, .ref h_t_ahead, .ref h_t_behind, .ref h_t_before, .int t_done, .int t_undone, .ref h_t_rows, .ref h_t_met, .ref h_t_metSizes, .int t_metMany, .int vL36_1, .ref h_t_chosen, .ref h_t_tape, .int t_taped, .int t_place, .int t_isWrong, .int t_toldGenus, .int t_toldMarks, .ref h_t_toldPowers, .ref h_t_powerPlaces, .int t_isTree, .int t_toldLeaves, .int t_leavesPlace, .int t_toldSplits, .ref h_t_toldTree, .ref h_t_splitPlaces, .ref h_t_layers, .int t_isWhy, .ref h_t_paper, .int t_papered, .ref h_t_held, .ref h_t_numbers, .ref h_t_sizes, .ref h_t_heldLeaves, .ref h_t_items, .ref h_t_kept, .int t_isKept])), (h_t_chosen, .inl (cI, 10, .inl (upd vL36_0 p2.toNatClampNeg vL36_2)))] H := hP
          have hD : va_D A [(h_t, .inr (8, [.int t_genus, .int t_marks, .ref h_t_powers, .int t_leaves, .int t_splits, .ref h_t_tree, .ref h_t_ahead, .ref h_t_behind, .ref h_t_before, .int t_done, .int t_undone, .ref h_t_rows, .ref h_t_met, .ref h_t_metSizes, .int t_metMany, .int vL36_1, .ref h_t_chosen, .ref h_t_tape, .int t_taped, .int t_place, .int t_isWrong, .int t_toldGenus, .int t_toldMarks, .ref h_t_toldPowers, .ref h_t_powerPlaces, .int t_isTree, .int t_toldLeaves, .int t_leavesPlace, .int t_toldSplits, .ref h_t_toldTree, .ref h_t_splitPlaces, .ref h_t_layers, .int t_isWhy, .ref h_t_paper, .int t_papered, .ref h_t_held, .ref h_t_numbers, .ref h_t_sizes, .ref h_t_heldLeaves, .ref h_t_items, .ref h_t_kept, .int t_isKept])), (h_t_chosen, .inl (cI, 10, .inl (upd vL36_0 p2.toNatClampNeg vL36_2)))] := hD
          refine lv_aload_n hx hb dX9_finds_117 rfl (lv_at hl 0 rfl) ?_
          refine lv_iload_n hx hb dX9_finds_118 rfl (lv_at hl 1 rfl) ?_
          refine lv_iload hx hb dX9_finds_119 (lv_at hl 5 rfl) ?_
          refine lv_iconst (v := (1 : Int32)) hx hb dX9_finds_121 (by decide) ?_
          refine lv_iadd hx hb dX9_finds_122 ?_
          refine lv_iload_n hx hb dX9_finds_123 rfl (lv_at hl 2 rfl) ?_
          refine lv_iconst (v := (1 : Int32)) hx hb dX9_finds_124 (by decide) ?_
          refine lv_iadd hx hb dX9_finds_125 ?_
          refine lv_iload hx hb dX9_finds_126 (lv_at hl 3 rfl) ?_
          refine lv_iload hx hb dX9_finds_128 (lv_at hl 4 rfl) ?_
          obtain ⟨x7, hx7, h⟩ := bd_e h
          try dsimp only at h
          refine k_ViM (n := 5) (As := [.int p0, .int (vL36_2 + (1 : Int32)), .int (p2 + (1 : Int32)), .int p3, .int p4]) (rest := []) hx hb hml hown hts (ihd G cI cJ cD cH H.size h_t h_t_chosen h_t_powers h_t_tree h_t_ahead h_t_behind h_t_before h_t_rows h_t_met h_t_metSizes h_t_tape h_t_toldPowers h_t_powerPlaces h_t_toldTree h_t_splitPlaces h_t_layers h_t_paper h_t_held h_t_numbers h_t_sizes h_t_heldLeaves h_t_items h_t_kept t_genus t_marks t_leaves t_splits t_done t_undone t_metMany vL36_1 t_taped t_place t_isWrong t_toldGenus t_toldMarks t_isTree t_toldLeaves t_leavesPlace t_toldSplits t_isWhy t_papered t_isKept (upd vL36_0 p2.toNatClampNeg vL36_2) p0 (vL36_2 + (1 : Int32)) (p2 + (1 : Int32)) p3 p4 (x7.1) (x7.2.1) (x7.2.2) hx7) gX9_finds_X9_finds rfl rfl rfl (by decide +kernel) ⟨by first | exact Nat.le_of_ble_eq_true rfl | (simp only [headSpec]; omega), by first | exact Nat.le_of_ble_eq_true rfl | (simp only [headSpec]; omega)⟩ hK hP hD hS hA [0, 1] (by decide) rfl rfl (ci := 8) rfl rfl rfl rfl rfl hl.1 (Nat.le_of_ble_eq_true rfl) dX9_finds_130 ⟨Nat.zero_le _, Nat.zero_le _⟩ [(h_t, .inr (8, [.int t_genus, .int t_marks, .ref h_t_powers, .int t_leaves, .int t_splits, .ref h_t_tree, .ref h_t_ahead, .ref h_t_behind, .ref h_t_before, .int t_done, .int t_undone, .ref h_t_rows, .ref h_t_met, .ref h_t_metSizes, .int t_metMany, .int (x7.2.2), .ref h_t_chosen, .ref h_t_tape, .int t_taped, .int t_place, .int t_isWrong, .int t_toldGenus, .int t_toldMarks, .ref h_t_toldPowers, .ref h_t_powerPlaces, .int t_isTree, .int t_toldLeaves, .int t_leavesPlace, .int t_toldSplits, .ref h_t_toldTree, .ref h_t_splitPlaces, .ref h_t_layers, .int t_isWhy, .ref h_t_paper, .int t_papered, .ref h_t_held, .ref h_t_numbers, .ref h_t_sizes, .ref h_t_heldLeaves, .ref h_t_items, .ref h_t_kept, .int t_isKept])), (h_t_chosen, .inl (cI, 10, .inl (x7.2.1)))] [1, 2] 2 (by decide +kernel) rfl rfl rfl (fun hp7 H locs hP hD hS => ?_)
          refine lv_if_eq (tgt := 138) hx hb dX9_finds_133 (by decide) (fun c8 => ?_) (fun c8 => ?_)
          · have h := it_p h c8
            refine lv_iinc (v := (vL36_2 + (1 : Int32))) (lv' := [(6, .int (vL36_2 + (1 : Int32))), (0, .ref h_t), (1, .int p0), (3, .int p2), (4, .int p3), (5, .int p4), (7, .int vK62_101_0)]) hx hb dX9_finds_138 hl (k := 5) rfl (by first | rfl | decide) (by decide) rfl (fun ls hl => ?_)
            refine lv_goto (tgt := 36) hx hb dX9_finds_141 (by decide) ?_
            exact ih36 (x7.2.1) (x7.2.2) (vL36_2 + (1 : Int32)) _ _ _ hP hD hS (lv_sub hl [1, 2, 3, 4, 5, 0] rfl) h
          have h := it_n h c8
          refine lv_iconst (v := (1 : Int32)) hx hb dX9_finds_136 (by decide) ?_
          have h9 := Option.some.inj h
          have e9 : (1 : Int32) = r0 := congrArg (fun z9 => z9.1) h9
          rw [← e9]
          have e9 : (x7.2.1) = w0 := congrArg (fun z9 => z9.2.1) h9
          rw [← e9]
          have e9 : (x7.2.2) = w1 := congrArg (fun z9 => z9.2.2) h9
          rw [← e9]
          exact k_zret hx hb hr hlocks hP hS rfl rfl dX9_finds_137
        have hL62 : ∀ (n62 : Nat) (vL62_0 : Int32) (vL62_1 : Int32) (H : Heap) (locs : List Loc) (ls : Array Slot), va_P G vwCl [(h_t, .inr (8, [.int t_genus, .int t_marks, .ref h_t_powers, .int t_leaves, .int t_splits, .ref h_t_tree, .ref h_t_ahead, .ref h_t_behind, .ref h_t_before, .int t_done, .int t_undone, .ref h_t_rows, .ref h_t_met, .ref h_t_metSizes, .int t_metMany, .int vL36_1, .ref h_t_chosen, .ref h_t_tape, .int t_taped, .int t_place, .int t_isWrong, .int t_toldGenus, .int t_toldMarks, .ref h_t_toldPowers, .ref h_t_powerPlaces, .int t_isTree, .int t_toldLeaves, .int t_leavesPlace, .int t_toldSplits, .ref h_t_toldTree, .ref h_t_splitPlaces, .ref h_t_layers, .int t_isWhy, .ref h_t_paper, .int t_papered, .ref h_t_held, .ref h_t_numbers, .ref h_t_sizes, .ref h_t_heldLeaves, .ref h_t_items, .ref h_t_kept, .int t_isKept])), (h_t_chosen, .inl (cI, 10, .inl vL36_0))] H → va_D A [(h_t, .inr (8, [.int t_genus, .int t_marks, .ref h_t_powers, .int t_leaves, .int t_splits, .ref h_t_tree, .ref h_t_ahead, .ref h_t_behind, .ref h_t_before, .int t_done, .int t_undone, .ref h_t_rows, .ref h_t_met, .ref h_t_metSizes, .int t_metMany, .int vL36_1, .ref h_t_chosen, .ref h_t_tape, .int t_taped, .int t_place, .int t_isWrong, .int t_toldGenus, .int t_toldMarks, .ref h_t_toldPowers, .ref h_t_powerPlaces, .int t_isTree, .int t_toldLeaves, .int t_leavesPlace, .int t_toldSplits, .ref h_t_toldTree, .ref h_t_splitPlaces, .ref h_t_layers, .int t_isWhy, .ref h_t_paper, .int t_papered, .ref h_t_held, .ref h_t_numbers, .ref h_t_sizes, .ref h_t_heldLeaves, .ref h_t_items, .ref h_t_kept, .int t_isKept])), (h_t_chosen, .inl (cI, 10, .inl vL36_0))] → va_S A s.heap H locs → lv_has ls 9 [(0, .ref h_t), (1, .int p0), (3, .int p2), (4, .int p3), (5, .int p4), (6, .int vL36_2), (7, .int vL62_0), (8, .int vL62_1)] → wq2 (B_X9_finds_62 p2 vL36_0 vL36_2 (K_X9_finds_62_101 (F_X9_finds d) p0 p2 p3 p4 vL36_0 vL36_1 vL36_2 (wq3 (B_X9_finds_36 (F_X9_finds d) p0 p2 p3 p4 K_X9_finds_36_144) n36))) n62 vL62_0 vL62_1 = some (r0, w0, w1) → W p l e (headSpec wsX9_finds ({ frames := (d + 1) + 2, cells := 0, slots := 0, locals := 28 * (d + 1) + 46 })).room s m ([.ref h_t, .int p0, .int p1, .int p2, .int p3, .int p4] : List Value).toArray below meth c H locs 0 0 (MQ below (va_Qi (fun r (_ : Unit) => r = r0 ∧ narrow .boolean (.int r0) = .int r0) (fun _ t => va_P G vwCl [(h_t, .inr (8, [.int t_genus, .int t_marks, .ref h_t_powers, .int t_leaves, .int t_splits, .ref h_t_tree, .ref h_t_ahead, .ref h_t_behind, .ref h_t_before, .int t_done, .int t_undone, .ref h_t_rows, .ref h_t_met, .ref h_t_metSizes, .int t_metMany, .int w1, .ref h_t_chosen, .ref h_t_tape, .int t_taped, .int t_place, .int t_isWrong, .int t_toldGenus, .int t_toldMarks, .ref h_t_toldPowers, .ref h_t_powerPlaces, .int t_isTree, .int t_toldLeaves, .int t_leavesPlace, .int t_toldSplits, .ref h_t_toldTree, .ref h_t_splitPlaces, .ref h_t_layers, .int t_isWhy, .ref h_t_paper, .int t_papered, .ref h_t_held, .ref h_t_numbers, .ref h_t_sizes, .ref h_t_heldLeaves, .ref h_t_items, .ref h_t_kept, .int t_isKept])), (h_t_chosen, .inl (cI, 10, .inl w0))] t.heap) A) ([.ref h_t, .int p0, .int p1, .int p2, .int p3, .int p4] : List Value).toArray s 0 0 A) (F0 m 62 ls []) := by
          intro n62
          induction n62 with
          | zero => intro vL62_0 vL62_1 H locs ls hP hD hS hl h; exact wq2_0 h
          | succ n62 ih62 =>
            intro vL62_0 vL62_1 H locs ls hP hD hS hl h
            have h := wq2_s h
            unfold B_X9_finds_62 at h
            refine lv_iload hx hb dX9_finds_62 (lv_at hl 7 rfl) ?_
            refine lv_iload_n hx hb dX9_finds_64 rfl (lv_at hl 2 rfl) ?_
            refine lv_icmp_ge (tgt := 101) hx hb dX9_finds_65 (by decide) (fun c9 => ?_) (fun c9 => ?_)
            · have h := it_p h c9
              exact hK_X9_finds_62_101 vL62_0 _ _ _ hP hD hS (lv_sub hl [0, 1, 2, 3, 4, 5, 6] rfl) h
            have h := it_n h c9
            refine lv_iload hx hb dX9_finds_68 (lv_at hl 6 rfl) ?_
            refine lv_if_eq (tgt := 92) hx hb dX9_finds_70 (by decide) (fun c10 => ?_) (fun c10 => ?_)
            · have h := it_p h c10
              refine lv_iconst (v := (0 : Int32)) hx hb dX9_finds_92 (by decide) ?_
              refine lv_istore (lv' := [(7, .int (0 : Int32)), (0, .ref h_t), (1, .int p0), (3, .int p2), (4, .int p3), (5, .int p4), (6, .int vL36_2), (8, .int vL62_1)]) hx hb dX9_finds_93 hl (by decide) rfl (fun ls hl => ?_)
              refine lv_iinc (v := (vL62_1 + (1 : Int32))) (lv' := [(8, .int (vL62_1 + (1 : Int32))), (7, .int (0 : Int32)), (0, .ref h_t), (1, .int p0), (3, .int p2), (4, .int p3), (5, .int p4), (6, .int vL36_2)]) hx hb dX9_finds_95 hl (k := 7) rfl (by first | rfl | decide) (by decide) rfl (fun ls hl => ?_)
              refine lv_goto (tgt := 62) hx hb dX9_finds_98 (by decide) ?_
              exact ih62 (0 : Int32) (vL62_1 + (1 : Int32)) _ _ _ hP hD hS (lv_sub hl [2, 3, 4, 5, 6, 7, 1, 0] rfl) h
            have h := it_n h c10
            refine lv_aload_n hx hb dX9_finds_73 rfl (lv_at hl 0 rfl) ?_
            refine va_get (D := G) (ci := 8) (v := .ref h_t_chosen) (C := RX9) (T := TX9) (N := 42) hx hb hts hinX9 hown hK hP 0 rfl rfl 16 (by decide) (hta _ mw_618) (fun _ h9 => h9) rfl dX9_finds_74 ?_
            refine lv_iload hx hb dX9_finds_77 (lv_at hl 7 rfl) ?_
            obtain ⟨hn11, h⟩ := ck_e h
            refine va_iald hx hb hK hP 1 0 rfl rfl hn11 dX9_finds_79 ?_
            refine lv_iload hx hb dX9_finds_80 (lv_at hl 5 rfl) ?_
            obtain ⟨x12, hx12, h⟩ := bd_e h
            try dsimp only at h
            refine k_SiU (n := 2) (As := [.int (vL36_0 vL62_1.toNatClampNeg), .int vL36_2]) (rest := []) hx hb hml hown hts (c_X9_goTogether l G cI cJ cD cH H.size (vL36_0 vL62_1.toNatClampNeg) vL36_2 x12 hx12) gX9_finds_X9_goTogether rfl rfl rfl (by decide +kernel) ⟨by first | exact Nat.le_of_ble_eq_true rfl | (simp only [headSpec]; omega), by first | exact Nat.le_of_ble_eq_true rfl | (simp only [headSpec]; omega)⟩ hK hP hD hS hA [] (by decide) rfl rfl rfl hl.1 (Nat.le_of_ble_eq_true rfl) dX9_finds_82 ⟨Nat.zero_le _, Nat.zero_le _⟩ (fun hp12 H locs hP hS => ?_)
            refine lv_if_eq (tgt := 92) hx hb dX9_finds_85 (by decide) (fun c13 => ?_) (fun c13 => ?_)
            · have h := it_p h c13
              refine lv_iconst (v := (0 : Int32)) hx hb dX9_finds_92 (by decide) ?_
              refine lv_istore (lv' := [(7, .int (0 : Int32)), (0, .ref h_t), (1, .int p0), (3, .int p2), (4, .int p3), (5, .int p4), (6, .int vL36_2), (8, .int vL62_1)]) hx hb dX9_finds_93 hl (by decide) rfl (fun ls hl => ?_)
              refine lv_iinc (v := (vL62_1 + (1 : Int32))) (lv' := [(8, .int (vL62_1 + (1 : Int32))), (7, .int (0 : Int32)), (0, .ref h_t), (1, .int p0), (3, .int p2), (4, .int p3), (5, .int p4), (6, .int vL36_2)]) hx hb dX9_finds_95 hl (k := 7) rfl (by first | rfl | decide) (by decide) rfl (fun ls hl => ?_)
              refine lv_goto (tgt := 62) hx hb dX9_finds_98 (by decide) ?_
              exact ih62 (0 : Int32) (vL62_1 + (1 : Int32)) _ _ _ hP hD hS (lv_sub hl [2, 3, 4, 5, 6, 7, 1, 0] rfl) h
            have h := it_n h c13
            refine lv_iconst (v := (1 : Int32)) hx hb dX9_finds_88 (by decide) ?_
            refine lv_goto (tgt := 93) hx hb dX9_finds_89 (by decide) ?_
            refine lv_istore (lv' := [(7, .int (1 : Int32)), (0, .ref h_t), (1, .int p0), (3, .int p2), (4, .int p3), (5, .int p4), (6, .int vL36_2), (8, .int vL62_1)]) hx hb dX9_finds_93 hl (by decide) rfl (fun ls hl => ?_)
            refine lv_iinc (v := (vL62_1 + (1 : Int32))) (lv' := [(8, .int (vL62_1 + (1 : Int32))), (7, .int (1 : Int32)), (0, .ref h_t), (1, .int p0), (3, .int p2), (4, .int p3), (5, .int p4), (6, .int vL36_2)]) hx hb dX9_finds_95 hl (k := 7) rfl (by first | rfl | decide) (by decide) rfl (fun ls hl => ?_)
            refine lv_goto (tgt := 62) hx hb dX9_finds_98 (by decide) ?_
            exact ih62 (1 : Int32) (vL62_1 + (1 : Int32)) _ _ _ hP hD hS (lv_sub hl [2, 3, 4, 5, 6, 7, 1, 0] rfl) h
        exact hL62 FU (1 : Int32) (0 : Int32) _ _ _ hP hD hS (lv_sub hl [2, 3, 4, 5, 6, 7, 1, 0] rfl) h
    exact hL36 FU a_t_chosen t_treesSeen p1 _ _ _ hP hD hS (lv_sub hl [1, 2, 4, 5, 6, 0] rfl) h

/-! X9_trees -/
set_option maxHeartbeats 4000000 in
set_option maxRecDepth 100000 in
theorem c_X9_trees (l : Launch) (G : va_G) (cI cJ cD cH : ClassId) (sz : Nat) (h_t : Nat) (h_t_chosen : Nat) (h_t_powers : Nat) (h_t_tree : Nat) (h_t_ahead : Nat) (h_t_behind : Nat) (h_t_before : Nat) (h_t_rows : Nat) (h_t_met : Nat) (h_t_metSizes : Nat) (h_t_tape : Nat) (h_t_toldPowers : Nat) (h_t_powerPlaces : Nat) (h_t_toldTree : Nat) (h_t_splitPlaces : Nat) (h_t_layers : Nat) (h_t_paper : Nat) (h_t_held : Nat) (h_t_numbers : Nat) (h_t_sizes : Nat) (h_t_heldLeaves : Nat) (h_t_items : Nat) (h_t_kept : Nat) (t_genus : Int32) (t_marks : Int32) (t_leaves : Int32) (t_splits : Int32) (t_done : Int32) (t_undone : Int32) (t_metMany : Int32) (t_treesSeen : Int32) (t_taped : Int32) (t_place : Int32) (t_isWrong : Int32) (t_toldGenus : Int32) (t_toldMarks : Int32) (t_isTree : Int32) (t_toldLeaves : Int32) (t_leavesPlace : Int32) (t_toldSplits : Int32) (t_isWhy : Int32) (t_papered : Int32) (t_isKept : Int32) (a_t_chosen : Nat → Int32) (p0 : Int32) (p1 : Int32) (r0 : Int32) (w0 : Nat → Int32) (w1 : Int32) (hF : F_X9_trees t_treesSeen a_t_chosen p0 p1 = some (r0, w0, w1)) : Met l yX9_trees wsX9_trees ({ frames := 11, cells := 0, slots := 0, locals := 298 }) (k_pre G (k_T cI cJ cD cH) [(h_t, .inr (8, [.int t_genus, .int t_marks, .ref h_t_powers, .int t_leaves, .int t_splits, .ref h_t_tree, .ref h_t_ahead, .ref h_t_behind, .ref h_t_before, .int t_done, .int t_undone, .ref h_t_rows, .ref h_t_met, .ref h_t_metSizes, .int t_metMany, .int t_treesSeen, .ref h_t_chosen, .ref h_t_tape, .int t_taped, .int t_place, .int t_isWrong, .int t_toldGenus, .int t_toldMarks, .ref h_t_toldPowers, .ref h_t_powerPlaces, .int t_isTree, .int t_toldLeaves, .int t_leavesPlace, .int t_toldSplits, .ref h_t_toldTree, .ref h_t_splitPlaces, .ref h_t_layers, .int t_isWhy, .ref h_t_paper, .int t_papered, .ref h_t_held, .ref h_t_numbers, .ref h_t_sizes, .ref h_t_heldLeaves, .ref h_t_items, .ref h_t_kept, .int t_isKept])), (h_t_chosen, .inl (cI, 10, .inl a_t_chosen))] sz [.ref h_t, .int p0, .int p1]) (va_Qi (fun r (_ : Unit) => r = r0 ∧ True) (fun _ t => va_P G vwCl [(h_t, .inr (8, [.int t_genus, .int t_marks, .ref h_t_powers, .int t_leaves, .int t_splits, .ref h_t_tree, .ref h_t_ahead, .ref h_t_behind, .ref h_t_before, .int t_done, .int t_undone, .ref h_t_rows, .ref h_t_met, .ref h_t_metSizes, .int t_metMany, .int w1, .ref h_t_chosen, .ref h_t_tape, .int t_taped, .int t_place, .int t_isWrong, .int t_toldGenus, .int t_toldMarks, .ref h_t_toldPowers, .ref h_t_powerPlaces, .int t_isTree, .int t_toldLeaves, .int t_leavesPlace, .int t_toldSplits, .ref h_t_toldTree, .ref h_t_splitPlaces, .ref h_t_layers, .int t_isWhy, .ref h_t_paper, .int t_papered, .ref h_t_held, .ref h_t_numbers, .ref h_t_sizes, .ref h_t_heldLeaves, .ref h_t_items, .ref h_t_kept, .int t_isKept])), (h_t_chosen, .inl (cI, 10, .inl w0))] t.heap) (va_A [(h_t, .inr (8, [.int t_genus, .int t_marks, .ref h_t_powers, .int t_leaves, .int t_splits, .ref h_t_tree, .ref h_t_ahead, .ref h_t_behind, .ref h_t_before, .int t_done, .int t_undone, .ref h_t_rows, .ref h_t_met, .ref h_t_metSizes, .int t_metMany, .int t_treesSeen, .ref h_t_chosen, .ref h_t_tape, .int t_taped, .int t_place, .int t_isWrong, .int t_toldGenus, .int t_toldMarks, .ref h_t_toldPowers, .ref h_t_powerPlaces, .int t_isTree, .int t_toldLeaves, .int t_leavesPlace, .int t_toldSplits, .ref h_t_toldTree, .ref h_t_splitPlaces, .ref h_t_layers, .int t_isWhy, .ref h_t_paper, .int t_papered, .ref h_t_held, .ref h_t_numbers, .ref h_t_sizes, .ref h_t_heldLeaves, .ref h_t_items, .ref h_t_kept, .int t_isKept])), (h_t_chosen, .inl (cI, 10, .inl a_t_chosen))] sz)) 0 0 (va_A [(h_t, .inr (8, [.int t_genus, .int t_marks, .ref h_t_powers, .int t_leaves, .int t_splits, .ref h_t_tree, .ref h_t_ahead, .ref h_t_behind, .ref h_t_before, .int t_done, .int t_undone, .ref h_t_rows, .ref h_t_met, .ref h_t_metSizes, .int t_metMany, .int t_treesSeen, .ref h_t_chosen, .ref h_t_tape, .int t_taped, .int t_place, .int t_isWrong, .int t_toldGenus, .int t_toldMarks, .ref h_t_toldPowers, .ref h_t_powerPlaces, .int t_isTree, .int t_toldLeaves, .int t_leavesPlace, .int t_toldSplits, .ref h_t_toldTree, .ref h_t_splitPlaces, .ref h_t_layers, .int t_isWhy, .ref h_t_paper, .int t_papered, .ref h_t_held, .ref h_t_numbers, .ref h_t_sizes, .ref h_t_heldLeaves, .ref h_t_items, .ref h_t_kept, .int t_isKept])), (h_t_chosen, .inl (cI, 10, .inl a_t_chosen))] sz) := by
  refine Met.ofW (cc := cX9_trees) (maxL := 4) (ret := (some .int)) (by decide) rfl ?_
  intro p e s m args below meth c s₁ B hml hv
  obtain ⟨rfl, hsz, hP, hK, hD0⟩ := hv
  have hx := B.exec
  have hb := B.bytes
  have hr := B.returns
  have hts := atoms_spec (ws := wsX9_trees) B.pre
  have hta : ∀ w ∈ wA, w.before ([.ref h_t, .int p0, .int p1] : List Value).toArray s = true := hta_of hts
  have hown : s.vm.findClass RX9 = some m.cls := findClass_of_methodNamed B.named
  have hlocks := B.notSynchronized
  subst hsz
  have hD := hD0.self (sz := s.heap.size)
  generalize hAe : va_A [(h_t, .inr (8, [.int t_genus, .int t_marks, .ref h_t_powers, .int t_leaves, .int t_splits, .ref h_t_tree, .ref h_t_ahead, .ref h_t_behind, .ref h_t_before, .int t_done, .int t_undone, .ref h_t_rows, .ref h_t_met, .ref h_t_metSizes, .int t_metMany, .int t_treesSeen, .ref h_t_chosen, .ref h_t_tape, .int t_taped, .int t_place, .int t_isWrong, .int t_toldGenus, .int t_toldMarks, .ref h_t_toldPowers, .ref h_t_powerPlaces, .int t_isTree, .int t_toldLeaves, .int t_leavesPlace, .int t_toldSplits, .ref h_t_toldTree, .ref h_t_splitPlaces, .ref h_t_layers, .int t_isWhy, .ref h_t_paper, .int t_papered, .ref h_t_held, .ref h_t_numbers, .ref h_t_sizes, .ref h_t_heldLeaves, .ref h_t_items, .ref h_t_kept, .int t_isKept])), (h_t_chosen, .inl (cI, 10, .inl a_t_chosen))] s.heap.size = A at hD ⊢
  have hA : ∀ q : Nat, s.heap.size ≤ q → A q := fun q h => by rw [← hAe]; exact Or.inr h
  have hS : va_S A s.heap s.heap [] := va_S.rf
  have hl := lv_entry ([.ref h_t, .int p0, .int p1]) (n := 4) (Nat.le_of_ble_eq_true rfl)
  rw [lg_entry_eq]
  generalize (lg_sl ([.ref h_t, .int p0, .int p1]) ++ List.replicate (4 - (lg_sl ([.ref h_t, .int p0, .int p1])).length) Slot.unset).toArray = ls at hl ⊢
  have hl : lv_has ls 4 [(0, .ref h_t), (1, .int p0), (2, .int p1)] := hl
  have hinX9 : ∀ w ∈ wsX90, w ∈ wsX9_trees := hin_of in_X9
  have h := hF
  unfold F_X9_trees at h
  refine lv_iload_n hx hb dX9_trees_0 rfl (lv_at hl 1 rfl) ?_
  refine lv_i2l (v := p0.toInt64) hx hb dX9_trees_1 (by first | rfl | decide) ?_
  refine lv_ldc2 (v := (3 : Int64)) hx hb hown (hta _ mw_676) dX9_trees_2 ?_
  refine lv_ldc2 (v := (6 : Int64)) hx hb hown (hta _ mw_751) dX9_trees_5 ?_
  obtain ⟨x1, hx1, h⟩ := bd_e h
  try dsimp only at h
  refine k_SiU (n := 3) (As := [.long p0.toInt64, .long (3 : Int64), .long (6 : Int64)]) (rest := []) hx hb hml hown hts (c_X9_in l G cI cJ cD cH s.heap.size p0.toInt64 (3 : Int64) (6 : Int64) x1 hx1) gX9_trees_X9_in rfl rfl rfl (by decide +kernel) ⟨by first | exact Nat.le_of_ble_eq_true rfl | (simp only [headSpec]; omega), by first | exact Nat.le_of_ble_eq_true rfl | (simp only [headSpec]; omega)⟩ hK hP hD hS hA [] (by decide) rfl rfl rfl hl.1 (Nat.le_of_ble_eq_true rfl) dX9_trees_8 ⟨Nat.zero_le _, Nat.zero_le _⟩ (fun hp1 H locs hP hS => ?_)
  refine lv_if_eq (tgt := 26) hx hb dX9_trees_11 (by decide) (fun c2 => ?_) (fun c2 => ?_)
  · have h := it_p h c2
    refine lv_iconst (v := (-1 : Int32)) hx hb dX9_trees_26 (by decide) ?_
    have h9 := Option.some.inj h
    have e9 : (-1 : Int32) = r0 := congrArg (fun z9 => z9.1) h9
    rw [← e9]
    have e9 : a_t_chosen = w0 := congrArg (fun z9 => z9.2.1) h9
    rw [← e9]
    have e9 : t_treesSeen = w1 := congrArg (fun z9 => z9.2.2) h9
    rw [← e9]
    exact k_iret hx hb hr hlocks hP hS rfl dX9_trees_27
  have h := it_n h c2
  refine lv_iload_n hx hb dX9_trees_14 rfl (lv_at hl 2 rfl) ?_
  refine lv_i2l (v := p1.toInt64) hx hb dX9_trees_15 (by first | rfl | decide) ?_
  refine lv_lconst (v := (0 : Int64)) hx hb dX9_trees_16 (by decide) ?_
  refine lv_ldc2 (v := (9 : Int64)) hx hb hown (hta _ mw_738) dX9_trees_17 ?_
  obtain ⟨x3, hx3, h⟩ := bd_e h
  try dsimp only at h
  refine k_SiU (n := 3) (As := [.long p1.toInt64, .long (0 : Int64), .long (9 : Int64)]) (rest := []) hx hb hml hown hts (c_X9_in l G cI cJ cD cH H.size p1.toInt64 (0 : Int64) (9 : Int64) x3 hx3) gX9_trees_X9_in rfl rfl rfl (by decide +kernel) ⟨by first | exact Nat.le_of_ble_eq_true rfl | (simp only [headSpec]; omega), by first | exact Nat.le_of_ble_eq_true rfl | (simp only [headSpec]; omega)⟩ hK hP hD hS hA [] (by decide) rfl rfl rfl hl.1 (Nat.le_of_ble_eq_true rfl) dX9_trees_20 ⟨Nat.zero_le _, Nat.zero_le _⟩ (fun hp3 H locs hP hS => ?_)
  refine lv_if_ne (tgt := 28) hx hb dX9_trees_23 (by decide) (fun c4 => ?_) (fun c4 => ?_)
  rotate_left
  · have h := it_p h c4
    refine lv_iconst (v := (-1 : Int32)) hx hb dX9_trees_26 (by decide) ?_
    have h9 := Option.some.inj h
    have e9 : (-1 : Int32) = r0 := congrArg (fun z9 => z9.1) h9
    rw [← e9]
    have e9 : a_t_chosen = w0 := congrArg (fun z9 => z9.2.1) h9
    rw [← e9]
    have e9 : t_treesSeen = w1 := congrArg (fun z9 => z9.2.2) h9
    rw [← e9]
    exact k_iret hx hb hr hlocks hP hS rfl dX9_trees_27
  have h := it_n h c4
  refine lv_aload_n hx hb dX9_trees_28 rfl (lv_at hl 0 rfl) ?_
  refine lv_iconst (v := (0 : Int32)) hx hb dX9_trees_29 (by decide) ?_
  refine va_put (D := G) (ci := 8) (v := .int (0 : Int32)) (ty := .int) (C := RX9) (T := TX9) (N := 42) hx hb hts hinX9 tyX9 tyX9_ok nmX9 hown hK hP hD hS 0 rfl rfl 15 (by decide) (hta _ mw_786) (fun _ h9 => h9) rfl (by decide +kernel) rfl rfl (Nat.le_of_ble_eq_true rfl) dX9_trees_30 (fun H locs hP hD hS => ?_)
  have hP : va_P G vwCl [(h_t, .inr (8, [.int t_genus, .int t_marks, .ref h_t_powers, .int t_leaves, .int t_splits, .ref h_t_tree, .ref h_t_ahead, .ref h_t_behind, .ref h_t_before, .int t_done, .int t_undone, .ref h_t_rows, .ref h_t_met, .ref h_t_metSizes, .int t_metMany, .int (0 : Int32), .ref h_t_chosen, .ref h_t_tape, .int t_taped, .int t_place, .int t_isWrong, .int t_toldGenus, .int t_toldMarks, .ref h_t_toldPowers, .ref h_t_powerPlaces, .int t_isTree, .int t_toldLeaves, .int t_leavesPlace, .int t_toldSplits, .ref h_t_toldTree, .ref h_t_splitPlaces, .ref h_t_layers, .int t_isWhy, .ref h_t_paper, .int t_papered, .ref h_t_held, .ref h_t_numbers, .ref h_t_sizes, .ref h_t_heldLeaves, .ref h_t_items, .ref h_t_kept, .int t_isKept])), (h_t_chosen, .inl (cI, 10, .inl a_t_chosen))] H := hP
  have hD : va_D A [(h_t, .inr (8, [.int t_genus, .int t_marks, .ref h_t_powers, .int t_leaves, .int t_splits, .ref h_t_tree, .ref h_t_ahead, .ref h_t_behind, .ref h_t_before, .int t_done, .int t_undone, .ref h_t_rows, .ref h_t_met, .ref h_t_metSizes, .int t_metMany, .int (0 : Int32), .ref h_t_chosen, .ref h_t_tape, .int t_taped, .int t_place, .int t_isWrong, .int t_toldGenus, .int t_toldMarks, .ref h_t_toldPowers, .ref h_t_powerPlaces, .int t_isTree, .int t_toldLeaves, .int t_leavesPlace, .int t_toldSplits, .ref h_t_toldTree, .ref h_t_splitPlaces, .ref h_t_layers, .int t_isWhy, .ref h_t_paper, .int t_papered, .ref h_t_held, .ref h_t_numbers, .ref h_t_sizes, .ref h_t_heldLeaves, .ref h_t_items, .ref h_t_kept, .int t_isKept])), (h_t_chosen, .inl (cI, 10, .inl a_t_chosen))] := hD
  refine lv_aload_n hx hb dX9_trees_33 rfl (lv_at hl 0 rfl) ?_
  refine lv_iload_n hx hb dX9_trees_34 rfl (lv_at hl 1 rfl) ?_
  refine lv_iconst (v := (1 : Int32)) hx hb dX9_trees_35 (by decide) ?_
  refine lv_iconst (v := (0 : Int32)) hx hb dX9_trees_36 (by decide) ?_
  refine lv_iload_n hx hb dX9_trees_37 rfl (lv_at hl 2 rfl) ?_
  refine lv_iconst (v := (-1 : Int32)) hx hb dX9_trees_38 (by decide) ?_
  obtain ⟨x5, hx5, h⟩ := bd_e h
  try dsimp only at h
  refine k_ViM (n := 5) (As := [.int p0, .int (1 : Int32), .int (0 : Int32), .int p1, .int (-1 : Int32)]) (rest := []) hx hb hml hown hts (c_X9_finds l 8 G cI cJ cD cH H.size h_t h_t_chosen h_t_powers h_t_tree h_t_ahead h_t_behind h_t_before h_t_rows h_t_met h_t_metSizes h_t_tape h_t_toldPowers h_t_powerPlaces h_t_toldTree h_t_splitPlaces h_t_layers h_t_paper h_t_held h_t_numbers h_t_sizes h_t_heldLeaves h_t_items h_t_kept t_genus t_marks t_leaves t_splits t_done t_undone t_metMany (0 : Int32) t_taped t_place t_isWrong t_toldGenus t_toldMarks t_isTree t_toldLeaves t_leavesPlace t_toldSplits t_isWhy t_papered t_isKept a_t_chosen p0 (1 : Int32) (0 : Int32) p1 (-1 : Int32) (x5.1) (x5.2.1) (x5.2.2) hx5) gX9_trees_X9_finds rfl rfl rfl (by decide +kernel) ⟨by first | exact Nat.le_of_ble_eq_true rfl | (simp only [headSpec]; omega), by first | exact Nat.le_of_ble_eq_true rfl | (simp only [headSpec]; omega)⟩ hK hP hD hS hA [0, 1] (by decide) rfl rfl (ci := 8) rfl rfl rfl rfl rfl hl.1 (Nat.le_of_ble_eq_true rfl) dX9_trees_39 ⟨Nat.zero_le _, Nat.zero_le _⟩ [(h_t, .inr (8, [.int t_genus, .int t_marks, .ref h_t_powers, .int t_leaves, .int t_splits, .ref h_t_tree, .ref h_t_ahead, .ref h_t_behind, .ref h_t_before, .int t_done, .int t_undone, .ref h_t_rows, .ref h_t_met, .ref h_t_metSizes, .int t_metMany, .int (x5.2.2), .ref h_t_chosen, .ref h_t_tape, .int t_taped, .int t_place, .int t_isWrong, .int t_toldGenus, .int t_toldMarks, .ref h_t_toldPowers, .ref h_t_powerPlaces, .int t_isTree, .int t_toldLeaves, .int t_leavesPlace, .int t_toldSplits, .ref h_t_toldTree, .ref h_t_splitPlaces, .ref h_t_layers, .int t_isWhy, .ref h_t_paper, .int t_papered, .ref h_t_held, .ref h_t_numbers, .ref h_t_sizes, .ref h_t_heldLeaves, .ref h_t_items, .ref h_t_kept, .int t_isKept])), (h_t_chosen, .inl (cI, 10, .inl (x5.2.1)))] [1, 2] 2 (by decide +kernel) rfl rfl rfl (fun hp5 H locs hP hD hS => ?_)
  refine lv_istore_n (lv' := [(3, .int (x5.1)), (0, .ref h_t), (1, .int p0), (2, .int p1)]) hx hb dX9_trees_42 rfl hl (by decide) rfl (fun ls hl => ?_)
  refine lv_aload_n hx hb dX9_trees_43 rfl (lv_at hl 1 rfl) ?_
  refine va_get (D := G) (ci := 8) (v := .int (x5.2.2)) (C := RX9) (T := TX9) (N := 42) hx hb hts hinX9 hown hK hP 0 rfl rfl 15 (by decide) (hta _ mw_786) (fun _ h9 => h9) rfl dX9_trees_44 ?_
  have h9 := Option.some.inj h
  have e9 : (x5.2.2) = r0 := congrArg (fun z9 => z9.1) h9
  rw [← e9]
  have e9 : (x5.2.1) = w0 := congrArg (fun z9 => z9.2.1) h9
  rw [← e9]
  have e9 : (x5.2.2) = w1 := congrArg (fun z9 => z9.2.2) h9
  rw [← e9]
  exact k_iret hx hb hr hlocks hP hS rfl dX9_trees_47

/-! X9_tree -/
set_option maxHeartbeats 4000000 in
set_option maxRecDepth 100000 in
theorem c_X9_tree (l : Launch) (G : va_G) (cI cJ cD cH : ClassId) (sz : Nat) (h_t : Nat) (h_t_chosen : Nat) (h_t_powers : Nat) (h_t_tree : Nat) (h_t_ahead : Nat) (h_t_behind : Nat) (h_t_before : Nat) (h_t_rows : Nat) (h_t_met : Nat) (h_t_metSizes : Nat) (h_t_tape : Nat) (h_t_toldPowers : Nat) (h_t_powerPlaces : Nat) (h_t_toldTree : Nat) (h_t_splitPlaces : Nat) (h_t_layers : Nat) (h_t_paper : Nat) (h_t_held : Nat) (h_t_numbers : Nat) (h_t_sizes : Nat) (h_t_heldLeaves : Nat) (h_t_items : Nat) (h_t_kept : Nat) (t_genus : Int32) (t_marks : Int32) (t_leaves : Int32) (t_splits : Int32) (t_done : Int32) (t_undone : Int32) (t_metMany : Int32) (t_treesSeen : Int32) (t_taped : Int32) (t_place : Int32) (t_isWrong : Int32) (t_toldGenus : Int32) (t_toldMarks : Int32) (t_isTree : Int32) (t_toldLeaves : Int32) (t_leavesPlace : Int32) (t_toldSplits : Int32) (t_isWhy : Int32) (t_papered : Int32) (t_isKept : Int32) (a_t_chosen : Nat → Int32) (p0 : Int32) (p1 : Int32) (p2 : Int32) (p3 : Int32) (r0 : Int32) (w0 : Nat → Int32) (w1 : Int32) (hF : F_X9_tree t_treesSeen a_t_chosen p0 p1 p2 p3 = some (r0, w0, w1)) : Met l yX9_tree wsX9_tree ({ frames := 11, cells := 0, slots := 0, locals := 298 }) (k_pre G (k_T cI cJ cD cH) [(h_t, .inr (8, [.int t_genus, .int t_marks, .ref h_t_powers, .int t_leaves, .int t_splits, .ref h_t_tree, .ref h_t_ahead, .ref h_t_behind, .ref h_t_before, .int t_done, .int t_undone, .ref h_t_rows, .ref h_t_met, .ref h_t_metSizes, .int t_metMany, .int t_treesSeen, .ref h_t_chosen, .ref h_t_tape, .int t_taped, .int t_place, .int t_isWrong, .int t_toldGenus, .int t_toldMarks, .ref h_t_toldPowers, .ref h_t_powerPlaces, .int t_isTree, .int t_toldLeaves, .int t_leavesPlace, .int t_toldSplits, .ref h_t_toldTree, .ref h_t_splitPlaces, .ref h_t_layers, .int t_isWhy, .ref h_t_paper, .int t_papered, .ref h_t_held, .ref h_t_numbers, .ref h_t_sizes, .ref h_t_heldLeaves, .ref h_t_items, .ref h_t_kept, .int t_isKept])), (h_t_chosen, .inl (cI, 10, .inl a_t_chosen))] sz [.ref h_t, .int p0, .int p1, .int p2, .int p3]) (va_Qi (fun r (_ : Unit) => r = r0 ∧ True) (fun _ t => va_P G vwCl [(h_t, .inr (8, [.int t_genus, .int t_marks, .ref h_t_powers, .int t_leaves, .int t_splits, .ref h_t_tree, .ref h_t_ahead, .ref h_t_behind, .ref h_t_before, .int t_done, .int t_undone, .ref h_t_rows, .ref h_t_met, .ref h_t_metSizes, .int t_metMany, .int w1, .ref h_t_chosen, .ref h_t_tape, .int t_taped, .int t_place, .int t_isWrong, .int t_toldGenus, .int t_toldMarks, .ref h_t_toldPowers, .ref h_t_powerPlaces, .int t_isTree, .int t_toldLeaves, .int t_leavesPlace, .int t_toldSplits, .ref h_t_toldTree, .ref h_t_splitPlaces, .ref h_t_layers, .int t_isWhy, .ref h_t_paper, .int t_papered, .ref h_t_held, .ref h_t_numbers, .ref h_t_sizes, .ref h_t_heldLeaves, .ref h_t_items, .ref h_t_kept, .int t_isKept])), (h_t_chosen, .inl (cI, 10, .inl w0))] t.heap) (va_A [(h_t, .inr (8, [.int t_genus, .int t_marks, .ref h_t_powers, .int t_leaves, .int t_splits, .ref h_t_tree, .ref h_t_ahead, .ref h_t_behind, .ref h_t_before, .int t_done, .int t_undone, .ref h_t_rows, .ref h_t_met, .ref h_t_metSizes, .int t_metMany, .int t_treesSeen, .ref h_t_chosen, .ref h_t_tape, .int t_taped, .int t_place, .int t_isWrong, .int t_toldGenus, .int t_toldMarks, .ref h_t_toldPowers, .ref h_t_powerPlaces, .int t_isTree, .int t_toldLeaves, .int t_leavesPlace, .int t_toldSplits, .ref h_t_toldTree, .ref h_t_splitPlaces, .ref h_t_layers, .int t_isWhy, .ref h_t_paper, .int t_papered, .ref h_t_held, .ref h_t_numbers, .ref h_t_sizes, .ref h_t_heldLeaves, .ref h_t_items, .ref h_t_kept, .int t_isKept])), (h_t_chosen, .inl (cI, 10, .inl a_t_chosen))] sz)) 0 0 (va_A [(h_t, .inr (8, [.int t_genus, .int t_marks, .ref h_t_powers, .int t_leaves, .int t_splits, .ref h_t_tree, .ref h_t_ahead, .ref h_t_behind, .ref h_t_before, .int t_done, .int t_undone, .ref h_t_rows, .ref h_t_met, .ref h_t_metSizes, .int t_metMany, .int t_treesSeen, .ref h_t_chosen, .ref h_t_tape, .int t_taped, .int t_place, .int t_isWrong, .int t_toldGenus, .int t_toldMarks, .ref h_t_toldPowers, .ref h_t_powerPlaces, .int t_isTree, .int t_toldLeaves, .int t_leavesPlace, .int t_toldSplits, .ref h_t_toldTree, .ref h_t_splitPlaces, .ref h_t_layers, .int t_isWhy, .ref h_t_paper, .int t_papered, .ref h_t_held, .ref h_t_numbers, .ref h_t_sizes, .ref h_t_heldLeaves, .ref h_t_items, .ref h_t_kept, .int t_isKept])), (h_t_chosen, .inl (cI, 10, .inl a_t_chosen))] sz) := by
  refine Met.ofW (cc := cX9_tree) (maxL := 5) (ret := (some .int)) (by decide) rfl ?_
  intro p e s m args below meth c s₁ B hml hv
  obtain ⟨rfl, hsz, hP, hK, hD0⟩ := hv
  have hx := B.exec
  have hb := B.bytes
  have hr := B.returns
  have hts := atoms_spec (ws := wsX9_tree) B.pre
  have hta : ∀ w ∈ wA, w.before ([.ref h_t, .int p0, .int p1, .int p2, .int p3] : List Value).toArray s = true := hta_of hts
  have hown : s.vm.findClass RX9 = some m.cls := findClass_of_methodNamed B.named
  have hlocks := B.notSynchronized
  subst hsz
  have hD := hD0.self (sz := s.heap.size)
  generalize hAe : va_A [(h_t, .inr (8, [.int t_genus, .int t_marks, .ref h_t_powers, .int t_leaves, .int t_splits, .ref h_t_tree, .ref h_t_ahead, .ref h_t_behind, .ref h_t_before, .int t_done, .int t_undone, .ref h_t_rows, .ref h_t_met, .ref h_t_metSizes, .int t_metMany, .int t_treesSeen, .ref h_t_chosen, .ref h_t_tape, .int t_taped, .int t_place, .int t_isWrong, .int t_toldGenus, .int t_toldMarks, .ref h_t_toldPowers, .ref h_t_powerPlaces, .int t_isTree, .int t_toldLeaves, .int t_leavesPlace, .int t_toldSplits, .ref h_t_toldTree, .ref h_t_splitPlaces, .ref h_t_layers, .int t_isWhy, .ref h_t_paper, .int t_papered, .ref h_t_held, .ref h_t_numbers, .ref h_t_sizes, .ref h_t_heldLeaves, .ref h_t_items, .ref h_t_kept, .int t_isKept])), (h_t_chosen, .inl (cI, 10, .inl a_t_chosen))] s.heap.size = A at hD ⊢
  have hA : ∀ q : Nat, s.heap.size ≤ q → A q := fun q h => by rw [← hAe]; exact Or.inr h
  have hS : va_S A s.heap s.heap [] := va_S.rf
  have hl := lv_entry ([.ref h_t, .int p0, .int p1, .int p2, .int p3]) (n := 5) (Nat.le_of_ble_eq_true rfl)
  rw [lg_entry_eq]
  generalize (lg_sl ([.ref h_t, .int p0, .int p1, .int p2, .int p3]) ++ List.replicate (5 - (lg_sl ([.ref h_t, .int p0, .int p1, .int p2, .int p3])).length) Slot.unset).toArray = ls at hl ⊢
  have hl : lv_has ls 5 [(0, .ref h_t), (1, .int p0), (2, .int p1), (3, .int p2), (4, .int p3)] := hl
  have hinX9 : ∀ w ∈ wsX90, w ∈ wsX9_tree := hin_of in_X9
  have h := hF
  unfold F_X9_tree at h
  refine lv_iload_n hx hb dX9_tree_0 rfl (lv_at hl 1 rfl) ?_
  refine lv_i2l (v := p0.toInt64) hx hb dX9_tree_1 (by first | rfl | decide) ?_
  refine lv_ldc2 (v := (3 : Int64)) hx hb hown (hta _ mw_676) dX9_tree_2 ?_
  refine lv_ldc2 (v := (6 : Int64)) hx hb hown (hta _ mw_751) dX9_tree_5 ?_
  obtain ⟨x1, hx1, h⟩ := bd_e h
  try dsimp only at h
  refine k_SiU (n := 3) (As := [.long p0.toInt64, .long (3 : Int64), .long (6 : Int64)]) (rest := []) hx hb hml hown hts (c_X9_in l G cI cJ cD cH s.heap.size p0.toInt64 (3 : Int64) (6 : Int64) x1 hx1) gX9_tree_X9_in rfl rfl rfl (by decide +kernel) ⟨by first | exact Nat.le_of_ble_eq_true rfl | (simp only [headSpec]; omega), by first | exact Nat.le_of_ble_eq_true rfl | (simp only [headSpec]; omega)⟩ hK hP hD hS hA [] (by decide) rfl rfl rfl hl.1 (Nat.le_of_ble_eq_true rfl) dX9_tree_8 ⟨Nat.zero_le _, Nat.zero_le _⟩ (fun hp1 H locs hP hS => ?_)
  refine lv_if_eq (tgt := 35) hx hb dX9_tree_11 (by decide) (fun c2 => ?_) (fun c2 => ?_)
  · have h := it_p h c2
    refine lv_iconst (v := (-1 : Int32)) hx hb dX9_tree_35 (by decide) ?_
    have h9 := Option.some.inj h
    have e9 : (-1 : Int32) = r0 := congrArg (fun z9 => z9.1) h9
    rw [← e9]
    have e9 : a_t_chosen = w0 := congrArg (fun z9 => z9.2.1) h9
    rw [← e9]
    have e9 : t_treesSeen = w1 := congrArg (fun z9 => z9.2.2) h9
    rw [← e9]
    exact k_iret hx hb hr hlocks hP hS rfl dX9_tree_36
  have h := it_n h c2
  refine lv_iload_n hx hb dX9_tree_14 rfl (lv_at hl 2 rfl) ?_
  refine lv_i2l (v := p1.toInt64) hx hb dX9_tree_15 (by first | rfl | decide) ?_
  refine lv_lconst (v := (0 : Int64)) hx hb dX9_tree_16 (by decide) ?_
  refine lv_ldc2 (v := (9 : Int64)) hx hb hown (hta _ mw_738) dX9_tree_17 ?_
  obtain ⟨x3, hx3, h⟩ := bd_e h
  try dsimp only at h
  refine k_SiU (n := 3) (As := [.long p1.toInt64, .long (0 : Int64), .long (9 : Int64)]) (rest := []) hx hb hml hown hts (c_X9_in l G cI cJ cD cH H.size p1.toInt64 (0 : Int64) (9 : Int64) x3 hx3) gX9_tree_X9_in rfl rfl rfl (by decide +kernel) ⟨by first | exact Nat.le_of_ble_eq_true rfl | (simp only [headSpec]; omega), by first | exact Nat.le_of_ble_eq_true rfl | (simp only [headSpec]; omega)⟩ hK hP hD hS hA [] (by decide) rfl rfl rfl hl.1 (Nat.le_of_ble_eq_true rfl) dX9_tree_20 ⟨Nat.zero_le _, Nat.zero_le _⟩ (fun hp3 H locs hP hS => ?_)
  refine lv_if_eq (tgt := 35) hx hb dX9_tree_23 (by decide) (fun c4 => ?_) (fun c4 => ?_)
  · have h := it_p h c4
    refine lv_iconst (v := (-1 : Int32)) hx hb dX9_tree_35 (by decide) ?_
    have h9 := Option.some.inj h
    have e9 : (-1 : Int32) = r0 := congrArg (fun z9 => z9.1) h9
    rw [← e9]
    have e9 : a_t_chosen = w0 := congrArg (fun z9 => z9.2.1) h9
    rw [← e9]
    have e9 : t_treesSeen = w1 := congrArg (fun z9 => z9.2.2) h9
    rw [← e9]
    exact k_iret hx hb hr hlocks hP hS rfl dX9_tree_36
  have h := it_n h c4
  refine lv_iload_n hx hb dX9_tree_26 rfl (lv_at hl 3 rfl) ?_
  refine lv_if_lt (tgt := 35) hx hb dX9_tree_27 (by decide) (fun c5 => ?_) (fun c5 => ?_)
  · have h := it_p h c5
    refine lv_iconst (v := (-1 : Int32)) hx hb dX9_tree_35 (by decide) ?_
    have h9 := Option.some.inj h
    have e9 : (-1 : Int32) = r0 := congrArg (fun z9 => z9.1) h9
    rw [← e9]
    have e9 : a_t_chosen = w0 := congrArg (fun z9 => z9.2.1) h9
    rw [← e9]
    have e9 : t_treesSeen = w1 := congrArg (fun z9 => z9.2.2) h9
    rw [← e9]
    exact k_iret hx hb hr hlocks hP hS rfl dX9_tree_36
  have h := it_n h c5
  refine lv_iload hx hb dX9_tree_30 (lv_at hl 4 rfl) ?_
  refine lv_if_ge (tgt := 37) hx hb dX9_tree_32 (by decide) (fun c6 => ?_) (fun c6 => ?_)
  rotate_left
  · have h := it_n h c6
    refine lv_iconst (v := (-1 : Int32)) hx hb dX9_tree_35 (by decide) ?_
    have h9 := Option.some.inj h
    have e9 : (-1 : Int32) = r0 := congrArg (fun z9 => z9.1) h9
    rw [← e9]
    have e9 : a_t_chosen = w0 := congrArg (fun z9 => z9.2.1) h9
    rw [← e9]
    have e9 : t_treesSeen = w1 := congrArg (fun z9 => z9.2.2) h9
    rw [← e9]
    exact k_iret hx hb hr hlocks hP hS rfl dX9_tree_36
  have h := it_p h c6
  refine lv_aload_n hx hb dX9_tree_37 rfl (lv_at hl 0 rfl) ?_
  refine lv_iconst (v := (0 : Int32)) hx hb dX9_tree_38 (by decide) ?_
  refine va_put (D := G) (ci := 8) (v := .int (0 : Int32)) (ty := .int) (C := RX9) (T := TX9) (N := 42) hx hb hts hinX9 tyX9 tyX9_ok nmX9 hown hK hP hD hS 0 rfl rfl 15 (by decide) (hta _ mw_786) (fun _ h9 => h9) rfl (by decide +kernel) rfl rfl (Nat.le_of_ble_eq_true rfl) dX9_tree_39 (fun H locs hP hD hS => ?_)
  have hP : va_P G vwCl [(h_t, .inr (8, [.int t_genus, .int t_marks, .ref h_t_powers, .int t_leaves, .int t_splits, .ref h_t_tree, .ref h_t_ahead, .ref h_t_behind, .ref h_t_before, .int t_done, .int t_undone, .ref h_t_rows, .ref h_t_met, .ref h_t_metSizes, .int t_metMany, .int (0 : Int32), .ref h_t_chosen, .ref h_t_tape, .int t_taped, .int t_place, .int t_isWrong, .int t_toldGenus, .int t_toldMarks, .ref h_t_toldPowers, .ref h_t_powerPlaces, .int t_isTree, .int t_toldLeaves, .int t_leavesPlace, .int t_toldSplits, .ref h_t_toldTree, .ref h_t_splitPlaces, .ref h_t_layers, .int t_isWhy, .ref h_t_paper, .int t_papered, .ref h_t_held, .ref h_t_numbers, .ref h_t_sizes, .ref h_t_heldLeaves, .ref h_t_items, .ref h_t_kept, .int t_isKept])), (h_t_chosen, .inl (cI, 10, .inl a_t_chosen))] H := hP
  have hD : va_D A [(h_t, .inr (8, [.int t_genus, .int t_marks, .ref h_t_powers, .int t_leaves, .int t_splits, .ref h_t_tree, .ref h_t_ahead, .ref h_t_behind, .ref h_t_before, .int t_done, .int t_undone, .ref h_t_rows, .ref h_t_met, .ref h_t_metSizes, .int t_metMany, .int (0 : Int32), .ref h_t_chosen, .ref h_t_tape, .int t_taped, .int t_place, .int t_isWrong, .int t_toldGenus, .int t_toldMarks, .ref h_t_toldPowers, .ref h_t_powerPlaces, .int t_isTree, .int t_toldLeaves, .int t_leavesPlace, .int t_toldSplits, .ref h_t_toldTree, .ref h_t_splitPlaces, .ref h_t_layers, .int t_isWhy, .ref h_t_paper, .int t_papered, .ref h_t_held, .ref h_t_numbers, .ref h_t_sizes, .ref h_t_heldLeaves, .ref h_t_items, .ref h_t_kept, .int t_isKept])), (h_t_chosen, .inl (cI, 10, .inl a_t_chosen))] := hD
  refine lv_aload_n hx hb dX9_tree_42 rfl (lv_at hl 0 rfl) ?_
  refine lv_iload_n hx hb dX9_tree_43 rfl (lv_at hl 1 rfl) ?_
  refine lv_iconst (v := (1 : Int32)) hx hb dX9_tree_44 (by decide) ?_
  refine lv_iconst (v := (0 : Int32)) hx hb dX9_tree_45 (by decide) ?_
  refine lv_iload_n hx hb dX9_tree_46 rfl (lv_at hl 2 rfl) ?_
  refine lv_iload_n hx hb dX9_tree_47 rfl (lv_at hl 3 rfl) ?_
  obtain ⟨x7, hx7, h⟩ := bd_e h
  try dsimp only at h
  refine k_ViM (n := 5) (As := [.int p0, .int (1 : Int32), .int (0 : Int32), .int p1, .int p2]) (rest := []) hx hb hml hown hts (c_X9_finds l 8 G cI cJ cD cH H.size h_t h_t_chosen h_t_powers h_t_tree h_t_ahead h_t_behind h_t_before h_t_rows h_t_met h_t_metSizes h_t_tape h_t_toldPowers h_t_powerPlaces h_t_toldTree h_t_splitPlaces h_t_layers h_t_paper h_t_held h_t_numbers h_t_sizes h_t_heldLeaves h_t_items h_t_kept t_genus t_marks t_leaves t_splits t_done t_undone t_metMany (0 : Int32) t_taped t_place t_isWrong t_toldGenus t_toldMarks t_isTree t_toldLeaves t_leavesPlace t_toldSplits t_isWhy t_papered t_isKept a_t_chosen p0 (1 : Int32) (0 : Int32) p1 p2 (x7.1) (x7.2.1) (x7.2.2) hx7) gX9_tree_X9_finds rfl rfl rfl (by decide +kernel) ⟨by first | exact Nat.le_of_ble_eq_true rfl | (simp only [headSpec]; omega), by first | exact Nat.le_of_ble_eq_true rfl | (simp only [headSpec]; omega)⟩ hK hP hD hS hA [0, 1] (by decide) rfl rfl (ci := 8) rfl rfl rfl rfl rfl hl.1 (Nat.le_of_ble_eq_true rfl) dX9_tree_48 ⟨Nat.zero_le _, Nat.zero_le _⟩ [(h_t, .inr (8, [.int t_genus, .int t_marks, .ref h_t_powers, .int t_leaves, .int t_splits, .ref h_t_tree, .ref h_t_ahead, .ref h_t_behind, .ref h_t_before, .int t_done, .int t_undone, .ref h_t_rows, .ref h_t_met, .ref h_t_metSizes, .int t_metMany, .int (x7.2.2), .ref h_t_chosen, .ref h_t_tape, .int t_taped, .int t_place, .int t_isWrong, .int t_toldGenus, .int t_toldMarks, .ref h_t_toldPowers, .ref h_t_powerPlaces, .int t_isTree, .int t_toldLeaves, .int t_leavesPlace, .int t_toldSplits, .ref h_t_toldTree, .ref h_t_splitPlaces, .ref h_t_layers, .int t_isWhy, .ref h_t_paper, .int t_papered, .ref h_t_held, .ref h_t_numbers, .ref h_t_sizes, .ref h_t_heldLeaves, .ref h_t_items, .ref h_t_kept, .int t_isKept])), (h_t_chosen, .inl (cI, 10, .inl (x7.2.1)))] [1, 2] 2 (by decide +kernel) rfl rfl rfl (fun hp7 H locs hP hD hS => ?_)
  refine lv_if_eq (tgt := 70) hx hb dX9_tree_51 (by decide) (fun c8 => ?_) (fun c8 => ?_)
  · have h := it_p h c8
    refine lv_bipush (v := (-2 : Int32)) hx hb dX9_tree_70 (by decide) ?_
    have h9 := Option.some.inj h
    have e9 : (-2 : Int32) = r0 := congrArg (fun z9 => z9.1) h9
    rw [← e9]
    have e9 : (x7.2.1) = w0 := congrArg (fun z9 => z9.2.1) h9
    rw [← e9]
    have e9 : (x7.2.2) = w1 := congrArg (fun z9 => z9.2.2) h9
    rw [← e9]
    exact k_iret hx hb hr hlocks hP hS rfl dX9_tree_72
  have h := it_n h c8
  refine lv_iload hx hb dX9_tree_54 (lv_at hl 4 rfl) ?_
  refine lv_iload_n hx hb dX9_tree_56 rfl (lv_at hl 2 rfl) ?_
  refine lv_icmp_ge (tgt := 70) hx hb dX9_tree_57 (by decide) (fun c9 => ?_) (fun c9 => ?_)
  · have h := it_p h c9
    refine lv_bipush (v := (-2 : Int32)) hx hb dX9_tree_70 (by decide) ?_
    have h9 := Option.some.inj h
    have e9 : (-2 : Int32) = r0 := congrArg (fun z9 => z9.1) h9
    rw [← e9]
    have e9 : (x7.2.1) = w0 := congrArg (fun z9 => z9.2.1) h9
    rw [← e9]
    have e9 : (x7.2.2) = w1 := congrArg (fun z9 => z9.2.2) h9
    rw [← e9]
    exact k_iret hx hb hr hlocks hP hS rfl dX9_tree_72
  have h := it_n h c9
  refine lv_aload_n hx hb dX9_tree_60 rfl (lv_at hl 0 rfl) ?_
  refine va_get (D := G) (ci := 8) (v := .ref h_t_chosen) (C := RX9) (T := TX9) (N := 42) hx hb hts hinX9 hown hK hP 0 rfl rfl 16 (by decide) (hta _ mw_618) (fun _ h9 => h9) rfl dX9_tree_61 ?_
  refine lv_iload hx hb dX9_tree_64 (lv_at hl 4 rfl) ?_
  obtain ⟨hn10, h⟩ := ck_e h
  refine va_iald hx hb hK hP 1 0 rfl rfl hn10 dX9_tree_66 ?_
  refine lv_goto (tgt := 72) hx hb dX9_tree_67 (by decide) ?_
  have h9 := Option.some.inj h
  have e9 : ((x7.2.1) p3.toNatClampNeg) = r0 := congrArg (fun z9 => z9.1) h9
  rw [← e9]
  have e9 : (x7.2.1) = w0 := congrArg (fun z9 => z9.2.1) h9
  rw [← e9]
  have e9 : (x7.2.2) = w1 := congrArg (fun z9 => z9.2.2) h9
  rw [← e9]
  exact k_iret hx hb hr hlocks hP hS rfl dX9_tree_72

/-! X9_without -/
set_option maxHeartbeats 4000000 in
set_option maxRecDepth 100000 in
theorem c_X9_without (l : Launch) (G : va_G) (cI cJ cD cH : ClassId) (sz : Nat) (p0 : Int32) (p1 : Int32) (p2 : Int32) (r0 : Int32) (hF : F_X9_without p0 p1 p2 = some r0) : Met l yX9_without wsX9_without ({ frames := 0, cells := 0, slots := 0, locals := 0 }) (k_pre G (k_T cI cJ cD cH) [] sz [.int p0, .int p1, .int p2]) (va_Qi (fun r (_ : Unit) => r = r0 ∧ True) (fun _ t => va_P G vwCl [] t.heap) (va_A [] sz)) 0 0 (va_A [] sz) := by
  refine Met.ofW (cc := cX9_without) (maxL := 5) (ret := (some .int)) (by decide) rfl ?_
  intro p e s m args below meth c s₁ B hml hv
  obtain ⟨rfl, hsz, hP, hK, hD0⟩ := hv
  have hx := B.exec
  have hb := B.bytes
  have hr := B.returns
  have hts := atoms_spec (ws := wsX9_without) B.pre
  have hta : ∀ w ∈ wA, w.before ([.int p0, .int p1, .int p2] : List Value).toArray s = true := hta_of hts
  have hown : s.vm.findClass RX9 = some m.cls := findClass_of_methodNamed B.named
  have hlocks := B.notSynchronized
  subst hsz
  have hD := hD0.self (sz := s.heap.size)
  generalize hAe : va_A [] s.heap.size = A at hD ⊢
  have hA : ∀ q : Nat, s.heap.size ≤ q → A q := fun q h => by rw [← hAe]; exact Or.inr h
  have hS : va_S A s.heap s.heap [] := va_S.rf
  have hl := lv_entry ([.int p0, .int p1, .int p2]) (n := 5) (Nat.le_of_ble_eq_true rfl)
  rw [lg_entry_eq]
  generalize (lg_sl ([.int p0, .int p1, .int p2]) ++ List.replicate (5 - (lg_sl ([.int p0, .int p1, .int p2])).length) Slot.unset).toArray = ls at hl ⊢
  have hl : lv_has ls 5 [(0, .int p0), (1, .int p1), (2, .int p2)] := hl
  have h := hF
  unfold F_X9_without at h
  refine lv_iload_n hx hb dX9_without_0 rfl (lv_at hl 0 rfl) ?_
  refine lv_iconst (v := (1 : Int32)) hx hb dX9_without_1 (by decide) ?_
  refine lv_iload_n hx hb dX9_without_2 rfl (lv_at hl 1 rfl) ?_
  refine lv_ishl hx hb dX9_without_3 ?_
  refine lv_iconst (v := (1 : Int32)) hx hb dX9_without_4 (by decide) ?_
  refine lv_isub hx hb dX9_without_5 ?_
  refine lv_iand hx hb dX9_without_6 ?_
  refine lv_istore_n (lv' := [(3, .int (p0 &&& (((1 : Int32) <<< (p1 &&& 31)) - (1 : Int32)))), (0, .int p0), (1, .int p1), (2, .int p2)]) hx hb dX9_without_7 rfl hl (by decide) rfl (fun ls hl => ?_)
  refine lv_iload_n hx hb dX9_without_8 rfl (lv_at hl 0 rfl) ?_
  refine lv_iload_n hx hb dX9_without_9 rfl (lv_at hl 1 rfl) ?_
  refine lv_iload_n hx hb dX9_without_10 rfl (lv_at hl 2 rfl) ?_
  refine lv_iconst (v := (1 : Int32)) hx hb dX9_without_11 (by decide) ?_
  refine lv_iadd hx hb dX9_without_12 ?_
  refine lv_ishr hx hb dX9_without_13 ?_
  refine lv_iload_n hx hb dX9_without_14 rfl (lv_at hl 2 rfl) ?_
  refine lv_ishl hx hb dX9_without_15 ?_
  refine lv_ior hx hb dX9_without_16 ?_
  refine lv_istore (lv' := [(4, .int ((p0 &&& (((1 : Int32) <<< (p1 &&& 31)) - (1 : Int32))) ||| ((p0 >>> ((p1 + (1 : Int32)) &&& 31)) <<< (p1 &&& 31)))), (3, .int (p0 &&& (((1 : Int32) <<< (p1 &&& 31)) - (1 : Int32)))), (0, .int p0), (1, .int p1), (2, .int p2)]) hx hb dX9_without_17 hl (by decide) rfl (fun ls hl => ?_)
  refine lv_iload hx hb dX9_without_19 (lv_at hl 0 rfl) ?_
  refine lv_iconst (v := (1 : Int32)) hx hb dX9_without_21 (by decide) ?_
  refine lv_iand hx hb dX9_without_22 ?_
  refine lv_iconst (v := (1 : Int32)) hx hb dX9_without_23 (by decide) ?_
  refine lv_icmp_ne (tgt := 40) hx hb dX9_without_24 (by decide) (fun c1 => ?_) (fun c1 => ?_)
  · have h := it_n h c1
    refine lv_iload hx hb dX9_without_40 (lv_at hl 0 rfl) ?_
    have h9 := Option.some.inj h
    have e9 : ((p0 &&& (((1 : Int32) <<< (p1 &&& 31)) - (1 : Int32))) ||| ((p0 >>> ((p1 + (1 : Int32)) &&& 31)) <<< (p1 &&& 31))) = r0 := congrArg (fun z9 => z9) h9
    rw [← e9]
    exact k_iret hx hb hr hlocks hP hS rfl dX9_without_42
  have h := it_p h c1
  refine lv_iconst (v := (1 : Int32)) hx hb dX9_without_27 (by decide) ?_
  refine lv_iload_n hx hb dX9_without_28 rfl (lv_at hl 4 rfl) ?_
  refine lv_ishl hx hb dX9_without_29 ?_
  refine lv_iconst (v := (1 : Int32)) hx hb dX9_without_30 (by decide) ?_
  refine lv_isub hx hb dX9_without_31 ?_
  refine lv_iload hx hb dX9_without_32 (lv_at hl 0 rfl) ?_
  refine lv_iconst (v := (-1 : Int32)) hx hb dX9_without_34 (by decide) ?_
  refine lv_ixor hx hb dX9_without_35 ?_
  refine lv_iand hx hb dX9_without_36 ?_
  refine lv_goto (tgt := 42) hx hb dX9_without_37 (by decide) ?_
  have h9 := Option.some.inj h
  have e9 : ((((1 : Int32) <<< (p2 &&& 31)) - (1 : Int32)) &&& (((p0 &&& (((1 : Int32) <<< (p1 &&& 31)) - (1 : Int32))) ||| ((p0 >>> ((p1 + (1 : Int32)) &&& 31)) <<< (p1 &&& 31))) ^^^ (-1 : Int32))) = r0 := congrArg (fun z9 => z9) h9
  rw [← e9]
  exact k_iret hx hb hr hlocks hP hS rfl dX9_without_42
