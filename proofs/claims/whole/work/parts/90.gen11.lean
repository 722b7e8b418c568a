/-! X9_taken -/
set_option maxHeartbeats 4000000 in
set_option maxRecDepth 100000 in
theorem tJ_X9_taken_120 {l : Launch} {G : va_G} {cI cJ cD cH : ClassId} {h_t : Nat} {h_t_held : Nat} {h_t_sizes : Nat} {h_t_heldLeaves : Nat} {h_t_numbers : Nat} {h_t_powers : Nat} {h_t_tree : Nat} {h_t_ahead : Nat} {h_t_behind : Nat} {h_t_before : Nat} {h_t_rows : Nat} {h_t_met : Nat} {h_t_metSizes : Nat} {h_t_chosen : Nat} {h_t_tape : Nat} {h_t_toldPowers : Nat} {h_t_powerPlaces : Nat} {h_t_toldTree : Nat} {h_t_splitPlaces : Nat} {h_t_layers : Nat} {h_t_paper : Nat} {h_t_items : Nat} {h_t_kept : Nat} {t_genus : Int32} {t_marks : Int32} {t_leaves : Int32} {t_splits : Int32} {t_done : Int32} {t_undone : Int32} {t_metMany : Int32} {t_treesSeen : Int32} {t_taped : Int32} {t_place : Int32} {t_isWrong : Int32} {t_toldGenus : Int32} {t_toldMarks : Int32} {t_isTree : Int32} {t_toldLeaves : Int32} {t_leavesPlace : Int32} {t_toldSplits : Int32} {t_isWhy : Int32} {t_papered : Int32} {t_isKept : Int32} {a_t_held : Nat → Int32} {a_t_sizes : Nat → Int32} {a_t_heldLeaves : Nat → Int32} {a_t_numbers : Nat → Int64} {p0 : Int32} {p1 : Int32} {r0 : Int32} {p : Program} {e : Env} {s : State} {m : MethodId} {below : List Frame} {meth : Method} {c : Code} {A : Nat → Prop} (hx : p.tables.exec = Jvm.exec) (hb : c.code = cX9_taken) (hr : meth.sig.returnType = (some .int)) (hml : c.maxLocals = 4) (hts : ∀ w ∈ wsX9_taken, w.before ([.ref h_t, .int p0, .int p1] : List Value).toArray s = true) (hown : s.vm.findClass RX9 = some m.cls) (hlocks : meth.locks = false) (hK : va_K G vwCl (k_T cI cJ cD cH) s) (hA : ∀ q : Nat, s.heap.size ≤ q → A q) : ∀  (vJ120_0 : Int32) (H : Heap) (locs : List Loc) (ls : Array Slot), va_P G vwCl [(h_t, .inr (8, [.int t_genus, .int t_marks, .ref h_t_powers, .int t_leaves, .int t_splits, .ref h_t_tree, .ref h_t_ahead, .ref h_t_behind, .ref h_t_before, .int t_done, .int t_undone, .ref h_t_rows, .ref h_t_met, .ref h_t_metSizes, .int t_metMany, .int t_treesSeen, .ref h_t_chosen, .ref h_t_tape, .int t_taped, .int t_place, .int t_isWrong, .int t_toldGenus, .int t_toldMarks, .ref h_t_toldPowers, .ref h_t_powerPlaces, .int t_isTree, .int t_toldLeaves, .int t_leavesPlace, .int t_toldSplits, .ref h_t_toldTree, .ref h_t_splitPlaces, .ref h_t_layers, .int t_isWhy, .ref h_t_paper, .int t_papered, .ref h_t_held, .ref h_t_numbers, .ref h_t_sizes, .ref h_t_heldLeaves, .ref h_t_items, .ref h_t_kept, .int t_isKept])), (h_t_held, .inl (cI, 6, .inl a_t_held)), (h_t_sizes, .inl (cI, 6, .inl a_t_sizes)), (h_t_heldLeaves, .inl (cI, 6, .inl a_t_heldLeaves)), (h_t_numbers, .inl (cJ, 6, .inr (.inl a_t_numbers)))] H → va_D A [(h_t, .inr (8, [.int t_genus, .int t_marks, .ref h_t_powers, .int t_leaves, .int t_splits, .ref h_t_tree, .ref h_t_ahead, .ref h_t_behind, .ref h_t_before, .int t_done, .int t_undone, .ref h_t_rows, .ref h_t_met, .ref h_t_metSizes, .int t_metMany, .int t_treesSeen, .ref h_t_chosen, .ref h_t_tape, .int t_taped, .int t_place, .int t_isWrong, .int t_toldGenus, .int t_toldMarks, .ref h_t_toldPowers, .ref h_t_powerPlaces, .int t_isTree, .int t_toldLeaves, .int t_leavesPlace, .int t_toldSplits, .ref h_t_toldTree, .ref h_t_splitPlaces, .ref h_t_layers, .int t_isWhy, .ref h_t_paper, .int t_papered, .ref h_t_held, .ref h_t_numbers, .ref h_t_sizes, .ref h_t_heldLeaves, .ref h_t_items, .ref h_t_kept, .int t_isKept])), (h_t_held, .inl (cI, 6, .inl a_t_held)), (h_t_sizes, .inl (cI, 6, .inl a_t_sizes)), (h_t_heldLeaves, .inl (cI, 6, .inl a_t_heldLeaves)), (h_t_numbers, .inl (cJ, 6, .inr (.inl a_t_numbers)))] → va_S A s.heap H locs → lv_has ls 4 [(0, .ref h_t), (1, .int p0)] → J_X9_taken_120 a_t_heldLeaves p0 vJ120_0 = some r0 → W p l e (headSpec wsX9_taken ({ frames := 2, cells := 0, slots := 0, locals := 45 })).room s m ([.ref h_t, .int p0, .int p1] : List Value).toArray below meth c H locs 0 0 (MQ below (va_Qi (fun r (_ : Unit) => r = r0 ∧ True) (fun _ t => va_P G vwCl [(h_t, .inr (8, [.int t_genus, .int t_marks, .ref h_t_powers, .int t_leaves, .int t_splits, .ref h_t_tree, .ref h_t_ahead, .ref h_t_behind, .ref h_t_before, .int t_done, .int t_undone, .ref h_t_rows, .ref h_t_met, .ref h_t_metSizes, .int t_metMany, .int t_treesSeen, .ref h_t_chosen, .ref h_t_tape, .int t_taped, .int t_place, .int t_isWrong, .int t_toldGenus, .int t_toldMarks, .ref h_t_toldPowers, .ref h_t_powerPlaces, .int t_isTree, .int t_toldLeaves, .int t_leavesPlace, .int t_toldSplits, .ref h_t_toldTree, .ref h_t_splitPlaces, .ref h_t_layers, .int t_isWhy, .ref h_t_paper, .int t_papered, .ref h_t_held, .ref h_t_numbers, .ref h_t_sizes, .ref h_t_heldLeaves, .ref h_t_items, .ref h_t_kept, .int t_isKept])), (h_t_held, .inl (cI, 6, .inl a_t_held)), (h_t_sizes, .inl (cI, 6, .inl a_t_sizes)), (h_t_heldLeaves, .inl (cI, 6, .inl a_t_heldLeaves)), (h_t_numbers, .inl (cJ, 6, .inr (.inl a_t_numbers)))] t.heap) A) ([.ref h_t, .int p0, .int p1] : List Value).toArray s 0 0 A) (F0 m 120 ls [.int vJ120_0]) := by
  have hta : ∀ w ∈ wA, w.before ([.ref h_t, .int p0, .int p1] : List Value).toArray s = true := hta_of hts
  have hinX9 : ∀ w ∈ wsX90, w ∈ wsX9_taken := hin_of in_X9
  intro vJ120_0 H locs ls hP hD hS hl h
  unfold J_X9_taken_120 at h
  refine lv_istore_n (lv' := [(3, .int vJ120_0), (0, .ref h_t), (1, .int p0)]) hx hb dX9_taken_120 rfl hl (by decide) rfl (fun ls hl => ?_)
  refine lv_iload_n hx hb dX9_taken_121 rfl (lv_at hl 0 rfl) ?_
  refine lv_if_eq (tgt := 134) hx hb dX9_taken_122 (by decide) (fun c11 => ?_) (fun c11 => ?_)
  · have h := it_p h c11
    refine lv_bipush (v := (-12 : Int32)) hx hb dX9_taken_134 (by decide) ?_
    have h9 := Option.some.inj h
    have e9 : (-12 : Int32) = r0 := congrArg (fun z9 => z9) h9
    rw [← e9]
    exact k_iret hx hb hr hlocks hP hS rfl dX9_taken_136
  have h := it_n h c11
  refine lv_aload_n hx hb dX9_taken_125 rfl (lv_at hl 1 rfl) ?_
  refine va_get (D := G) (ci := 8) (v := .ref h_t_heldLeaves) (C := RX9) (T := TX9) (N := 42) hx hb hts hinX9 hown hK hP 0 rfl rfl 38 (by decide) (hta _ mw_626) (fun _ h9 => h9) rfl dX9_taken_126 ?_
  refine lv_iload_n hx hb dX9_taken_129 rfl (lv_at hl 2 rfl) ?_
  obtain ⟨hn12, h⟩ := ck_e h
  refine va_iald hx hb hK hP 3 0 rfl rfl hn12 dX9_taken_130 ?_
  refine lv_goto (tgt := 136) hx hb dX9_taken_131 (by decide) ?_
  have h9 := Option.some.inj h
  have e9 : (a_t_heldLeaves p0.toNatClampNeg) = r0 := congrArg (fun z9 => z9) h9
  rw [← e9]
  exact k_iret hx hb hr hlocks hP hS rfl dX9_taken_136
set_option maxHeartbeats 4000000 in
set_option maxRecDepth 100000 in
theorem c_X9_taken (l : Launch) (G : va_G) (cI cJ cD cH : ClassId) (sz : Nat) (h_t : Nat) (h_t_held : Nat) (h_t_sizes : Nat) (h_t_heldLeaves : Nat) (h_t_numbers : Nat) (h_t_powers : Nat) (h_t_tree : Nat) (h_t_ahead : Nat) (h_t_behind : Nat) (h_t_before : Nat) (h_t_rows : Nat) (h_t_met : Nat) (h_t_metSizes : Nat) (h_t_chosen : Nat) (h_t_tape : Nat) (h_t_toldPowers : Nat) (h_t_powerPlaces : Nat) (h_t_toldTree : Nat) (h_t_splitPlaces : Nat) (h_t_layers : Nat) (h_t_paper : Nat) (h_t_items : Nat) (h_t_kept : Nat) (t_genus : Int32) (t_marks : Int32) (t_leaves : Int32) (t_splits : Int32) (t_done : Int32) (t_undone : Int32) (t_metMany : Int32) (t_treesSeen : Int32) (t_taped : Int32) (t_place : Int32) (t_isWrong : Int32) (t_toldGenus : Int32) (t_toldMarks : Int32) (t_isTree : Int32) (t_toldLeaves : Int32) (t_leavesPlace : Int32) (t_toldSplits : Int32) (t_isWhy : Int32) (t_papered : Int32) (t_isKept : Int32) (a_t_held : Nat → Int32) (a_t_sizes : Nat → Int32) (a_t_heldLeaves : Nat → Int32) (a_t_numbers : Nat → Int64) (p0 : Int32) (p1 : Int32) (r0 : Int32) (hF : F_X9_taken a_t_held a_t_sizes a_t_heldLeaves a_t_numbers p0 p1 = some r0) : Met l yX9_taken wsX9_taken ({ frames := 2, cells := 0, slots := 0, locals := 45 }) (k_pre G (k_T cI cJ cD cH) [(h_t, .inr (8, [.int t_genus, .int t_marks, .ref h_t_powers, .int t_leaves, .int t_splits, .ref h_t_tree, .ref h_t_ahead, .ref h_t_behind, .ref h_t_before, .int t_done, .int t_undone, .ref h_t_rows, .ref h_t_met, .ref h_t_metSizes, .int t_metMany, .int t_treesSeen, .ref h_t_chosen, .ref h_t_tape, .int t_taped, .int t_place, .int t_isWrong, .int t_toldGenus, .int t_toldMarks, .ref h_t_toldPowers, .ref h_t_powerPlaces, .int t_isTree, .int t_toldLeaves, .int t_leavesPlace, .int t_toldSplits, .ref h_t_toldTree, .ref h_t_splitPlaces, .ref h_t_layers, .int t_isWhy, .ref h_t_paper, .int t_papered, .ref h_t_held, .ref h_t_numbers, .ref h_t_sizes, .ref h_t_heldLeaves, .ref h_t_items, .ref h_t_kept, .int t_isKept])), (h_t_held, .inl (cI, 6, .inl a_t_held)), (h_t_sizes, .inl (cI, 6, .inl a_t_sizes)), (h_t_heldLeaves, .inl (cI, 6, .inl a_t_heldLeaves)), (h_t_numbers, .inl (cJ, 6, .inr (.inl a_t_numbers)))] sz [.ref h_t, .int p0, .int p1]) (va_Qi (fun r (_ : Unit) => r = r0 ∧ True) (fun _ t => va_P G vwCl [(h_t, .inr (8, [.int t_genus, .int t_marks, .ref h_t_powers, .int t_leaves, .int t_splits, .ref h_t_tree, .ref h_t_ahead, .ref h_t_behind, .ref h_t_before, .int t_done, .int t_undone, .ref h_t_rows, .ref h_t_met, .ref h_t_metSizes, .int t_metMany, .int t_treesSeen, .ref h_t_chosen, .ref h_t_tape, .int t_taped, .int t_place, .int t_isWrong, .int t_toldGenus, .int t_toldMarks, .ref h_t_toldPowers, .ref h_t_powerPlaces, .int t_isTree, .int t_toldLeaves, .int t_leavesPlace, .int t_toldSplits, .ref h_t_toldTree, .ref h_t_splitPlaces, .ref h_t_layers, .int t_isWhy, .ref h_t_paper, .int t_papered, .ref h_t_held, .ref h_t_numbers, .ref h_t_sizes, .ref h_t_heldLeaves, .ref h_t_items, .ref h_t_kept, .int t_isKept])), (h_t_held, .inl (cI, 6, .inl a_t_held)), (h_t_sizes, .inl (cI, 6, .inl a_t_sizes)), (h_t_heldLeaves, .inl (cI, 6, .inl a_t_heldLeaves)), (h_t_numbers, .inl (cJ, 6, .inr (.inl a_t_numbers)))] t.heap) (va_A [(h_t, .inr (8, [.int t_genus, .int t_marks, .ref h_t_powers, .int t_leaves, .int t_splits, .ref h_t_tree, .ref h_t_ahead, .ref h_t_behind, .ref h_t_before, .int t_done, .int t_undone, .ref h_t_rows, .ref h_t_met, .ref h_t_metSizes, .int t_metMany, .int t_treesSeen, .ref h_t_chosen, .ref h_t_tape, .int t_taped, .int t_place, .int t_isWrong, .int t_toldGenus, .int t_toldMarks, .ref h_t_toldPowers, .ref h_t_powerPlaces, .int t_isTree, .int t_toldLeaves, .int t_leavesPlace, .int t_toldSplits, .ref h_t_toldTree, .ref h_t_splitPlaces, .ref h_t_layers, .int t_isWhy, .ref h_t_paper, .int t_papered, .ref h_t_held, .ref h_t_numbers, .ref h_t_sizes, .ref h_t_heldLeaves, .ref h_t_items, .ref h_t_kept, .int t_isKept])), (h_t_held, .inl (cI, 6, .inl a_t_held)), (h_t_sizes, .inl (cI, 6, .inl a_t_sizes)), (h_t_heldLeaves, .inl (cI, 6, .inl a_t_heldLeaves)), (h_t_numbers, .inl (cJ, 6, .inr (.inl a_t_numbers)))] sz)) 0 0 (va_A [(h_t, .inr (8, [.int t_genus, .int t_marks, .ref h_t_powers, .int t_leaves, .int t_splits, .ref h_t_tree, .ref h_t_ahead, .ref h_t_behind, .ref h_t_before, .int t_done, .int t_undone, .ref h_t_rows, .ref h_t_met, .ref h_t_metSizes, .int t_metMany, .int t_treesSeen, .ref h_t_chosen, .ref h_t_tape, .int t_taped, .int t_place, .int t_isWrong, .int t_toldGenus, .int t_toldMarks, .ref h_t_toldPowers, .ref h_t_powerPlaces, .int t_isTree, .int t_toldLeaves, .int t_leavesPlace, .int t_toldSplits, .ref h_t_toldTree, .ref h_t_splitPlaces, .ref h_t_layers, .int t_isWhy, .ref h_t_paper, .int t_papered, .ref h_t_held, .ref h_t_numbers, .ref h_t_sizes, .ref h_t_heldLeaves, .ref h_t_items, .ref h_t_kept, .int t_isKept])), (h_t_held, .inl (cI, 6, .inl a_t_held)), (h_t_sizes, .inl (cI, 6, .inl a_t_sizes)), (h_t_heldLeaves, .inl (cI, 6, .inl a_t_heldLeaves)), (h_t_numbers, .inl (cJ, 6, .inr (.inl a_t_numbers)))] sz) := by
  refine Met.ofW (cc := cX9_taken) (maxL := 4) (ret := (some .int)) (by decide) rfl ?_
  intro p e s m args below meth c s₁ B hml hv
  obtain ⟨rfl, hsz, hP, hK, hD0⟩ := hv
  have hx := B.exec
  have hb := B.bytes
  have hr := B.returns
  have hts := atoms_spec (ws := wsX9_taken) B.pre
  have hta : ∀ w ∈ wA, w.before ([.ref h_t, .int p0, .int p1] : List Value).toArray s = true := hta_of hts
  have hown : s.vm.findClass RX9 = some m.cls := findClass_of_methodNamed B.named
  have hlocks := B.notSynchronized
  subst hsz
  have hD := hD0.self (sz := s.heap.size)
  generalize hAe : va_A [(h_t, .inr (8, [.int t_genus, .int t_marks, .ref h_t_powers, .int t_leaves, .int t_splits, .ref h_t_tree, .ref h_t_ahead, .ref h_t_behind, .ref h_t_before, .int t_done, .int t_undone, .ref h_t_rows, .ref h_t_met, .ref h_t_metSizes, .int t_metMany, .int t_treesSeen, .ref h_t_chosen, .ref h_t_tape, .int t_taped, .int t_place, .int t_isWrong, .int t_toldGenus, .int t_toldMarks, .ref h_t_toldPowers, .ref h_t_powerPlaces, .int t_isTree, .int t_toldLeaves, .int t_leavesPlace, .int t_toldSplits, .ref h_t_toldTree, .ref h_t_splitPlaces, .ref h_t_layers, .int t_isWhy, .ref h_t_paper, .int t_papered, .ref h_t_held, .ref h_t_numbers, .ref h_t_sizes, .ref h_t_heldLeaves, .ref h_t_items, .ref h_t_kept, .int t_isKept])), (h_t_held, .inl (cI, 6, .inl a_t_held)), (h_t_sizes, .inl (cI, 6, .inl a_t_sizes)), (h_t_heldLeaves, .inl (cI, 6, .inl a_t_heldLeaves)), (h_t_numbers, .inl (cJ, 6, .inr (.inl a_t_numbers)))] s.heap.size = A at hD ⊢
  have hA : ∀ q : Nat, s.heap.size ≤ q → A q := fun q h => by rw [← hAe]; exact Or.inr h
  have hS : va_S A s.heap s.heap [] := va_S.rf
  have hl := lv_entry ([.ref h_t, .int p0, .int p1]) (n := 4) (Nat.le_of_ble_eq_true rfl)
  rw [lg_entry_eq]
  generalize (lg_sl ([.ref h_t, .int p0, .int p1]) ++ List.replicate (4 - (lg_sl ([.ref h_t, .int p0, .int p1])).length) Slot.unset).toArray = ls at hl ⊢
  have hl : lv_has ls 4 [(0, .ref h_t), (1, .int p0), (2, .int p1)] := hl
  have hinX9 : ∀ w ∈ wsX90, w ∈ wsX9_taken := hin_of in_X9
  have h := hF
  unfold F_X9_taken at h
  refine lv_iload_n hx hb dX9_taken_0 rfl (lv_at hl 1 rfl) ?_
  obtain ⟨x1, hx1, h⟩ := bd_e h
  try dsimp only at h
  refine k_SiU (n := 1) (As := [.int p0]) (rest := []) hx hb hml hown hts (c_X9_isHolder l G cI cJ cD cH s.heap.size p0 x1 hx1) gX9_taken_X9_isHolder rfl rfl rfl (by decide +kernel) ⟨by first | exact Nat.le_of_ble_eq_true rfl | (simp only [headSpec]; omega), by first | exact Nat.le_of_ble_eq_true rfl | (simp only [headSpec]; omega)⟩ hK hP hD hS hA [] (by decide) rfl rfl rfl hl.1 (Nat.le_of_ble_eq_true rfl) dX9_taken_1 ⟨Nat.zero_le _, Nat.zero_le _⟩ (fun hp1 H locs hP hS => ?_)
  refine lv_if_eq (tgt := 19) hx hb dX9_taken_4 (by decide) (fun c2 => ?_) (fun c2 => ?_)
  · have h := it_p h c2
    refine lv_iconst (v := (-1 : Int32)) hx hb dX9_taken_19 (by decide) ?_
    have h9 := Option.some.inj h
    have e9 : (-1 : Int32) = r0 := congrArg (fun z9 => z9) h9
    rw [← e9]
    exact k_iret hx hb hr hlocks hP hS rfl dX9_taken_20
  have h := it_n h c2
  refine lv_iload_n hx hb dX9_taken_7 rfl (lv_at hl 2 rfl) ?_
  refine lv_i2l (v := p1.toInt64) hx hb dX9_taken_8 (by first | rfl | decide) ?_
  refine lv_lconst (v := (0 : Int64)) hx hb dX9_taken_9 (by decide) ?_
  refine lv_ldc2 (v := (3 : Int64)) hx hb hown (hta _ mw_673) dX9_taken_10 ?_
  obtain ⟨x3, hx3, h⟩ := bd_e h
  try dsimp only at h
  refine k_SiU (n := 3) (As := [.long p1.toInt64, .long (0 : Int64), .long (3 : Int64)]) (rest := []) hx hb hml hown hts (c_X9_in l G cI cJ cD cH H.size p1.toInt64 (0 : Int64) (3 : Int64) x3 hx3) gX9_taken_X9_in rfl rfl rfl (by decide +kernel) ⟨by first | exact Nat.le_of_ble_eq_true rfl | (simp only [headSpec]; omega), by first | exact Nat.le_of_ble_eq_true rfl | (simp only [headSpec]; omega)⟩ hK hP hD hS hA [] (by decide) rfl rfl rfl hl.1 (Nat.le_of_ble_eq_true rfl) dX9_taken_13 ⟨Nat.zero_le _, Nat.zero_le _⟩ (fun hp3 H locs hP hS => ?_)
  refine lv_if_ne (tgt := 21) hx hb dX9_taken_16 (by decide) (fun c4 => ?_) (fun c4 => ?_)
  rotate_left
  · have h := it_p h c4
    refine lv_iconst (v := (-1 : Int32)) hx hb dX9_taken_19 (by decide) ?_
    have h9 := Option.some.inj h
    have e9 : (-1 : Int32) = r0 := congrArg (fun z9 => z9) h9
    rw [← e9]
    exact k_iret hx hb hr hlocks hP hS rfl dX9_taken_20
  have h := it_n h c4
  refine lv_aload_n hx hb dX9_taken_21 rfl (lv_at hl 0 rfl) ?_
  refine va_get (D := G) (ci := 8) (v := .ref h_t_held) (C := RX9) (T := TX9) (N := 42) hx hb hts hinX9 hown hK hP 0 rfl rfl 35 (by decide) (hta _ mw_623) (fun _ h9 => h9) rfl dX9_taken_22 ?_
  refine lv_iload_n hx hb dX9_taken_25 rfl (lv_at hl 1 rfl) ?_
  obtain ⟨hn5, h⟩ := ck_e h
  refine va_iald hx hb hK hP 1 0 rfl rfl hn5 dX9_taken_26 ?_
  refine lv_if_ne (tgt := 33) hx hb dX9_taken_27 (by decide) (fun c6 => ?_) (fun c6 => ?_)
  rotate_left
  · have h := it_p h c6
    refine lv_bipush (v := (-11 : Int32)) hx hb dX9_taken_30 (by decide) ?_
    have h9 := Option.some.inj h
    have e9 : (-11 : Int32) = r0 := congrArg (fun z9 => z9) h9
    rw [← e9]
    exact k_iret hx hb hr hlocks hP hS rfl dX9_taken_32
  have h := it_n h c6
  refine lv_iload_n hx hb dX9_taken_33 rfl (lv_at hl 2 rfl) ?_
  refine lv_if_ne (tgt := 60) hx hb dX9_taken_34 (by decide) (fun c7 => ?_) (fun c7 => ?_)
  rotate_left
  · have h := it_p h c7
    refine lv_aload_n hx hb dX9_taken_37 rfl (lv_at hl 0 rfl) ?_
    refine va_get (D := G) (ci := 8) (v := .ref h_t_held) (C := RX9) (T := TX9) (N := 42) hx hb hts hinX9 hown hK hP 0 rfl rfl 35 (by decide) (hta _ mw_623) (fun _ h9 => h9) rfl dX9_taken_38 ?_
    refine lv_iload_n hx hb dX9_taken_41 rfl (lv_at hl 1 rfl) ?_
    obtain ⟨hn20, h⟩ := ck_e h
    refine va_iald hx hb hK hP 1 0 rfl rfl hn20 dX9_taken_42 ?_
    refine lv_iconst (v := (1 : Int32)) hx hb dX9_taken_43 (by decide) ?_
    refine lv_icmp_ne (tgt := 57) hx hb dX9_taken_44 (by decide) (fun c21 => ?_) (fun c21 => ?_)
    · have h := it_n h c21
      refine lv_bipush (v := (-12 : Int32)) hx hb dX9_taken_57 (by decide) ?_
      have h9 := Option.some.inj h
      have e9 : (-12 : Int32) = r0 := congrArg (fun z9 => z9) h9
      rw [← e9]
      exact k_iret hx hb hr hlocks hP hS rfl dX9_taken_59
    have h := it_p h c21
    refine lv_aload_n hx hb dX9_taken_47 rfl (lv_at hl 0 rfl) ?_
    refine va_get (D := G) (ci := 8) (v := .ref h_t_numbers) (C := RX9) (T := TX9) (N := 42) hx hb hts hinX9 hown hK hP 0 rfl rfl 36 (by decide) (hta _ mw_624) (fun _ h9 => h9) rfl dX9_taken_48 ?_
    refine lv_iload_n hx hb dX9_taken_51 rfl (lv_at hl 1 rfl) ?_
    obtain ⟨hn22, h⟩ := ck_e h
    refine va_lald hx hb hK hP 4 1 rfl rfl hn22 dX9_taken_52 ?_
    refine lv_l2i (v := (a_t_numbers p0.toNatClampNeg).toInt32) hx hb dX9_taken_53 rfl ?_
    refine lv_goto (tgt := 59) hx hb dX9_taken_54 (by decide) ?_
    have h9 := Option.some.inj h
    have e9 : (a_t_numbers p0.toNatClampNeg).toInt32 = r0 := congrArg (fun z9 => z9) h9
    rw [← e9]
    exact k_iret hx hb hr hlocks hP hS rfl dX9_taken_59
  have h := it_n h c7
  refine lv_aload_n hx hb dX9_taken_60 rfl (lv_at hl 0 rfl) ?_
  refine va_get (D := G) (ci := 8) (v := .ref h_t_held) (C := RX9) (T := TX9) (N := 42) hx hb hts hinX9 hown hK hP 0 rfl rfl 35 (by decide) (hta _ mw_623) (fun _ h9 => h9) rfl dX9_taken_61 ?_
  refine lv_iload_n hx hb dX9_taken_64 rfl (lv_at hl 1 rfl) ?_
  obtain ⟨hn8, h⟩ := ck_e h
  refine va_iald hx hb hK hP 1 0 rfl rfl hn8 dX9_taken_65 ?_
  refine lv_iconst (v := (2 : Int32)) hx hb dX9_taken_66 (by decide) ?_
  refine lv_icmp_eq (tgt := 73) hx hb dX9_taken_67 (by decide) (fun c9 => ?_) (fun c9 => ?_)
  rotate_left
  · have h := it_n h c9
    refine lv_bipush (v := (-12 : Int32)) hx hb dX9_taken_70 (by decide) ?_
    have h9 := Option.some.inj h
    have e9 : (-12 : Int32) = r0 := congrArg (fun z9 => z9) h9
    rw [← e9]
    exact k_iret hx hb hr hlocks hP hS rfl dX9_taken_72
  have h := it_p h c9
  refine lv_iload_n hx hb dX9_taken_73 rfl (lv_at hl 2 rfl) ?_
  refine lv_iconst (v := (1 : Int32)) hx hb dX9_taken_74 (by decide) ?_
  refine lv_icmp_ne (tgt := 85) hx hb dX9_taken_75 (by decide) (fun c10 => ?_) (fun c10 => ?_)
  rotate_left
  · have h := it_p h c10
    refine lv_aload_n hx hb dX9_taken_78 rfl (lv_at hl 0 rfl) ?_
    refine va_get (D := G) (ci := 8) (v := .ref h_t_sizes) (C := RX9) (T := TX9) (N := 42) hx hb hts hinX9 hown hK hP 0 rfl rfl 37 (by decide) (hta _ mw_625) (fun _ h9 => h9) rfl dX9_taken_79 ?_
    refine lv_iload_n hx hb dX9_taken_82 rfl (lv_at hl 1 rfl) ?_
    obtain ⟨hn19, h⟩ := ck_e h
    refine va_iald hx hb hK hP 2 0 rfl rfl hn19 dX9_taken_83 ?_
    have h9 := Option.some.inj h
    have e9 : (a_t_sizes p0.toNatClampNeg) = r0 := congrArg (fun z9 => z9) h9
    rw [← e9]
    exact k_iret hx hb hr hlocks hP hS rfl dX9_taken_84
  have h := it_n h c10
  refine lv_iload_n hx hb dX9_taken_85 rfl (lv_at hl 2 rfl) ?_
  refine lv_iconst (v := (2 : Int32)) hx hb dX9_taken_86 (by decide) ?_
  refine lv_icmp_ne (tgt := 98) hx hb dX9_taken_87 (by decide) (fun c13 => ?_) (fun c13 => ?_)
  rotate_left
  · have h := it_p h c13
    refine lv_aload_n hx hb dX9_taken_90 rfl (lv_at hl 0 rfl) ?_
    refine lv_iload_n hx hb dX9_taken_91 rfl (lv_at hl 1 rfl) ?_
    obtain ⟨x18, hx18, h⟩ := bd_e h
    try dsimp only at h
    refine k_ViU (n := 1) (As := [.int p0]) (rest := []) hx hb hml hown hts (c_X9_isFull l G cI cJ cD cH H.size h_t h_t_sizes h_t_heldLeaves h_t_powers h_t_tree h_t_ahead h_t_behind h_t_before h_t_rows h_t_met h_t_metSizes h_t_chosen h_t_tape h_t_toldPowers h_t_powerPlaces h_t_toldTree h_t_splitPlaces h_t_layers h_t_paper h_t_held h_t_numbers h_t_items h_t_kept t_genus t_marks t_leaves t_splits t_done t_undone t_metMany t_treesSeen t_taped t_place t_isWrong t_toldGenus t_toldMarks t_isTree t_toldLeaves t_leavesPlace t_toldSplits t_isWhy t_papered t_isKept a_t_sizes a_t_heldLeaves p0 x18 hx18) gX9_taken_X9_isFull rfl rfl rfl (by decide +kernel) ⟨by first | exact Nat.le_of_ble_eq_true rfl | (simp only [headSpec]; omega), by first | exact Nat.le_of_ble_eq_true rfl | (simp only [headSpec]; omega)⟩ hK hP hD hS hA [0, 2, 3] (by decide) rfl (ci := 8) rfl rfl rfl rfl rfl hl.1 (Nat.le_of_ble_eq_true rfl) dX9_taken_92 ⟨Nat.zero_le _, Nat.zero_le _⟩ (fun hp18 H locs hP hS => ?_)
    refine lv_goto (tgt := 120) hx hb dX9_taken_95 (by decide) ?_
    exact tJ_X9_taken_120 hx hb hr hml hts hown hlocks hK hA x18 _ _ _ hP hD hS (lv_sub hl [0, 1] rfl) h
  have h := it_n h c13
  refine lv_aload_n hx hb dX9_taken_98 rfl (lv_at hl 0 rfl) ?_
  refine lv_iload_n hx hb dX9_taken_99 rfl (lv_at hl 1 rfl) ?_
  obtain ⟨x14, hx14, h⟩ := bd_e h
  try dsimp only at h
  refine k_ViU (n := 1) (As := [.int p0]) (rest := []) hx hb hml hown hts (c_X9_isFull l G cI cJ cD cH H.size h_t h_t_sizes h_t_heldLeaves h_t_powers h_t_tree h_t_ahead h_t_behind h_t_before h_t_rows h_t_met h_t_metSizes h_t_chosen h_t_tape h_t_toldPowers h_t_powerPlaces h_t_toldTree h_t_splitPlaces h_t_layers h_t_paper h_t_held h_t_numbers h_t_items h_t_kept t_genus t_marks t_leaves t_splits t_done t_undone t_metMany t_treesSeen t_taped t_place t_isWrong t_toldGenus t_toldMarks t_isTree t_toldLeaves t_leavesPlace t_toldSplits t_isWhy t_papered t_isKept a_t_sizes a_t_heldLeaves p0 x14 hx14) gX9_taken_X9_isFull rfl rfl rfl (by decide +kernel) ⟨by first | exact Nat.le_of_ble_eq_true rfl | (simp only [headSpec]; omega), by first | exact Nat.le_of_ble_eq_true rfl | (simp only [headSpec]; omega)⟩ hK hP hD hS hA [0, 2, 3] (by decide) rfl (ci := 8) rfl rfl rfl rfl rfl hl.1 (Nat.le_of_ble_eq_true rfl) dX9_taken_100 ⟨Nat.zero_le _, Nat.zero_le _⟩ (fun hp14 H locs hP hS => ?_)
  have hJ_X9_taken_119 : ∀ (H : Heap) (locs : List Loc) (ls : Array Slot), va_P G vwCl [(h_t, .inr (8, [.int t_genus, .int t_marks, .ref h_t_powers, .int t_leaves, .int t_splits, .ref h_t_tree, .ref h_t_ahead, .ref h_t_behind, .ref h_t_before, .int t_done, .int t_undone, .ref h_t_rows, .ref h_t_met, .ref h_t_metSizes, .int t_metMany, .int t_treesSeen, .ref h_t_chosen, .ref h_t_tape, .int t_taped, .int t_place, .int t_isWrong, .int t_toldGenus, .int t_toldMarks, .ref h_t_toldPowers, .ref h_t_powerPlaces, .int t_isTree, .int t_toldLeaves, .int t_leavesPlace, .int t_toldSplits, .ref h_t_toldTree, .ref h_t_splitPlaces, .ref h_t_layers, .int t_isWhy, .ref h_t_paper, .int t_papered, .ref h_t_held, .ref h_t_numbers, .ref h_t_sizes, .ref h_t_heldLeaves, .ref h_t_items, .ref h_t_kept, .int t_isKept])), (h_t_held, .inl (cI, 6, .inl a_t_held)), (h_t_sizes, .inl (cI, 6, .inl a_t_sizes)), (h_t_heldLeaves, .inl (cI, 6, .inl a_t_heldLeaves)), (h_t_numbers, .inl (cJ, 6, .inr (.inl a_t_numbers)))] H → va_D A [(h_t, .inr (8, [.int t_genus, .int t_marks, .ref h_t_powers, .int t_leaves, .int t_splits, .ref h_t_tree, .ref h_t_ahead, .ref h_t_behind, .ref h_t_before, .int t_done, .int t_undone, .ref h_t_rows, .ref h_t_met, .ref h_t_metSizes, .int t_metMany, .int t_treesSeen, .ref h_t_chosen, .ref h_t_tape, .int t_taped, .int t_place, .int t_isWrong, .int t_toldGenus, .int t_toldMarks, .ref h_t_toldPowers, .ref h_t_powerPlaces, .int t_isTree, .int t_toldLeaves, .int t_leavesPlace, .int t_toldSplits, .ref h_t_toldTree, .ref h_t_splitPlaces, .ref h_t_layers, .int t_isWhy, .ref h_t_paper, .int t_papered, .ref h_t_held, .ref h_t_numbers, .ref h_t_sizes, .ref h_t_heldLeaves, .ref h_t_items, .ref h_t_kept, .int t_isKept])), (h_t_held, .inl (cI, 6, .inl a_t_held)), (h_t_sizes, .inl (cI, 6, .inl a_t_sizes)), (h_t_heldLeaves, .inl (cI, 6, .inl a_t_heldLeaves)), (h_t_numbers, .inl (cJ, 6, .inr (.inl a_t_numbers)))] → va_S A s.heap H locs → lv_has ls 4 [(0, .ref h_t), (1, .int p0)] → J_X9_taken_119 a_t_heldLeaves p0 = some r0 → W p l e (headSpec wsX9_taken ({ frames := 2, cells := 0, slots := 0, locals := 45 })).room s m ([.ref h_t, .int p0, .int p1] : List Value).toArray below meth c H locs 0 0 (MQ below (va_Qi (fun r (_ : Unit) => r = r0 ∧ True) (fun _ t => va_P G vwCl [(h_t, .inr (8, [.int t_genus, .int t_marks, .ref h_t_powers, .int t_leaves, .int t_splits, .ref h_t_tree, .ref h_t_ahead, .ref h_t_behind, .ref h_t_before, .int t_done, .int t_undone, .ref h_t_rows, .ref h_t_met, .ref h_t_metSizes, .int t_metMany, .int t_treesSeen, .ref h_t_chosen, .ref h_t_tape, .int t_taped, .int t_place, .int t_isWrong, .int t_toldGenus, .int t_toldMarks, .ref h_t_toldPowers, .ref h_t_powerPlaces, .int t_isTree, .int t_toldLeaves, .int t_leavesPlace, .int t_toldSplits, .ref h_t_toldTree, .ref h_t_splitPlaces, .ref h_t_layers, .int t_isWhy, .ref h_t_paper, .int t_papered, .ref h_t_held, .ref h_t_numbers, .ref h_t_sizes, .ref h_t_heldLeaves, .ref h_t_items, .ref h_t_kept, .int t_isKept])), (h_t_held, .inl (cI, 6, .inl a_t_held)), (h_t_sizes, .inl (cI, 6, .inl a_t_sizes)), (h_t_heldLeaves, .inl (cI, 6, .inl a_t_heldLeaves)), (h_t_numbers, .inl (cJ, 6, .inr (.inl a_t_numbers)))] t.heap) A) ([.ref h_t, .int p0, .int p1] : List Value).toArray s 0 0 A) (F0 m 119 ls []) := by
    intro  H locs ls hP hD hS hl h
    unfold J_X9_taken_119 at h
    refine lv_iconst (v := (0 : Int32)) hx hb dX9_taken_119 (by decide) ?_
    exact tJ_X9_taken_120 hx hb hr hml hts hown hlocks hK hA (0 : Int32) _ _ _ hP hD hS (lv_sub hl [0, 1] rfl) h
  refine lv_if_ne (tgt := 119) hx hb dX9_taken_103 (by decide) (fun c15 => ?_) (fun c15 => ?_)
  · have h := it_n h c15
    exact hJ_X9_taken_119  _ _ _ hP hD hS (lv_sub hl [0, 1] rfl) h
  have h := it_p h c15
  refine lv_aload_n hx hb dX9_taken_106 rfl (lv_at hl 0 rfl) ?_
  refine va_get (D := G) (ci := 8) (v := .ref h_t_sizes) (C := RX9) (T := TX9) (N := 42) hx hb hts hinX9 hown hK hP 0 rfl rfl 37 (by decide) (hta _ mw_625) (fun _ h9 => h9) rfl dX9_taken_107 ?_
  refine lv_iload_n hx hb dX9_taken_110 rfl (lv_at hl 1 rfl) ?_
  obtain ⟨hn16, h⟩ := ck_e h
  refine va_iald hx hb hK hP 2 0 rfl rfl hn16 dX9_taken_111 ?_
  refine lv_if_ne (tgt := 119) hx hb dX9_taken_112 (by decide) (fun c17 => ?_) (fun c17 => ?_)
  · have h := it_n h c17
    exact hJ_X9_taken_119  _ _ _ hP hD hS (lv_sub hl [0, 1] rfl) h
  have h := it_p h c17
  refine lv_iconst (v := (1 : Int32)) hx hb dX9_taken_115 (by decide) ?_
  refine lv_goto (tgt := 120) hx hb dX9_taken_116 (by decide) ?_
  exact tJ_X9_taken_120 hx hb hr hml hts hown hlocks hK hA (1 : Int32) _ _ _ hP hD hS (lv_sub hl [0, 1] rfl) h

/-! X9_common_ -/
set_option maxHeartbeats 4000000 in
set_option maxRecDepth 100000 in
theorem c_X9_common_ (l : Launch) (G : va_G) (cI cJ cD cH : ClassId) (sz : Nat) (h_t : Nat) (h_t_held : Nat) (h_t_heldLeaves : Nat) (h_t_sizes : Nat) (h_t_items : Nat) (h_t_tree : Nat) (h_t_powers : Nat) (h_t_ahead : Nat) (h_t_behind : Nat) (h_t_before : Nat) (h_t_rows : Nat) (h_t_met : Nat) (h_t_metSizes : Nat) (h_t_chosen : Nat) (h_t_tape : Nat) (h_t_toldPowers : Nat) (h_t_powerPlaces : Nat) (h_t_toldTree : Nat) (h_t_splitPlaces : Nat) (h_t_layers : Nat) (h_t_paper : Nat) (h_t_numbers : Nat) (h_t_kept : Nat) (t_genus : Int32) (t_marks : Int32) (t_leaves : Int32) (t_splits : Int32) (t_done : Int32) (t_undone : Int32) (t_metMany : Int32) (t_treesSeen : Int32) (t_taped : Int32) (t_place : Int32) (t_isWrong : Int32) (t_toldGenus : Int32) (t_toldMarks : Int32) (t_isTree : Int32) (t_toldLeaves : Int32) (t_leavesPlace : Int32) (t_toldSplits : Int32) (t_isWhy : Int32) (t_papered : Int32) (t_isKept : Int32) (a_t_held : Nat → Int32) (a_t_heldLeaves : Nat → Int32) (a_t_sizes : Nat → Int32) (a_t_items : Nat → Int32) (a_t_tree : Nat → Int32) (p0 : Int32) (r0 : Int32) (hF : F_X9_common_ t_leaves t_splits a_t_held a_t_heldLeaves a_t_sizes a_t_items a_t_tree p0 = some r0) : Met l yX9_common_ wsX9_common_ ({ frames := 2, cells := 0, slots := 0, locals := 45 }) (k_pre G (k_T cI cJ cD cH) [(h_t, .inr (8, [.int t_genus, .int t_marks, .ref h_t_powers, .int t_leaves, .int t_splits, .ref h_t_tree, .ref h_t_ahead, .ref h_t_behind, .ref h_t_before, .int t_done, .int t_undone, .ref h_t_rows, .ref h_t_met, .ref h_t_metSizes, .int t_metMany, .int t_treesSeen, .ref h_t_chosen, .ref h_t_tape, .int t_taped, .int t_place, .int t_isWrong, .int t_toldGenus, .int t_toldMarks, .ref h_t_toldPowers, .ref h_t_powerPlaces, .int t_isTree, .int t_toldLeaves, .int t_leavesPlace, .int t_toldSplits, .ref h_t_toldTree, .ref h_t_splitPlaces, .ref h_t_layers, .int t_isWhy, .ref h_t_paper, .int t_papered, .ref h_t_held, .ref h_t_numbers, .ref h_t_sizes, .ref h_t_heldLeaves, .ref h_t_items, .ref h_t_kept, .int t_isKept])), (h_t_held, .inl (cI, 6, .inl a_t_held)), (h_t_heldLeaves, .inl (cI, 6, .inl a_t_heldLeaves)), (h_t_sizes, .inl (cI, 6, .inl a_t_sizes)), (h_t_items, .inl (cI, 120, .inl a_t_items)), (h_t_tree, .inl (cI, 3, .inl a_t_tree))] sz [.ref h_t, .int p0]) (va_Qi (fun r (_ : Unit) => r = r0 ∧ True) (fun _ t => va_P G vwCl [(h_t, .inr (8, [.int t_genus, .int t_marks, .ref h_t_powers, .int t_leaves, .int t_splits, .ref h_t_tree, .ref h_t_ahead, .ref h_t_behind, .ref h_t_before, .int t_done, .int t_undone, .ref h_t_rows, .ref h_t_met, .ref h_t_metSizes, .int t_metMany, .int t_treesSeen, .ref h_t_chosen, .ref h_t_tape, .int t_taped, .int t_place, .int t_isWrong, .int t_toldGenus, .int t_toldMarks, .ref h_t_toldPowers, .ref h_t_powerPlaces, .int t_isTree, .int t_toldLeaves, .int t_leavesPlace, .int t_toldSplits, .ref h_t_toldTree, .ref h_t_splitPlaces, .ref h_t_layers, .int t_isWhy, .ref h_t_paper, .int t_papered, .ref h_t_held, .ref h_t_numbers, .ref h_t_sizes, .ref h_t_heldLeaves, .ref h_t_items, .ref h_t_kept, .int t_isKept])), (h_t_held, .inl (cI, 6, .inl a_t_held)), (h_t_heldLeaves, .inl (cI, 6, .inl a_t_heldLeaves)), (h_t_sizes, .inl (cI, 6, .inl a_t_sizes)), (h_t_items, .inl (cI, 120, .inl a_t_items)), (h_t_tree, .inl (cI, 3, .inl a_t_tree))] t.heap) (va_A [(h_t, .inr (8, [.int t_genus, .int t_marks, .ref h_t_powers, .int t_leaves, .int t_splits, .ref h_t_tree, .ref h_t_ahead, .ref h_t_behind, .ref h_t_before, .int t_done, .int t_undone, .ref h_t_rows, .ref h_t_met, .ref h_t_metSizes, .int t_metMany, .int t_treesSeen, .ref h_t_chosen, .ref h_t_tape, .int t_taped, .int t_place, .int t_isWrong, .int t_toldGenus, .int t_toldMarks, .ref h_t_toldPowers, .ref h_t_powerPlaces, .int t_isTree, .int t_toldLeaves, .int t_leavesPlace, .int t_toldSplits, .ref h_t_toldTree, .ref h_t_splitPlaces, .ref h_t_layers, .int t_isWhy, .ref h_t_paper, .int t_papered, .ref h_t_held, .ref h_t_numbers, .ref h_t_sizes, .ref h_t_heldLeaves, .ref h_t_items, .ref h_t_kept, .int t_isKept])), (h_t_held, .inl (cI, 6, .inl a_t_held)), (h_t_heldLeaves, .inl (cI, 6, .inl a_t_heldLeaves)), (h_t_sizes, .inl (cI, 6, .inl a_t_sizes)), (h_t_items, .inl (cI, 120, .inl a_t_items)), (h_t_tree, .inl (cI, 3, .inl a_t_tree))] sz)) 0 0 (va_A [(h_t, .inr (8, [.int t_genus, .int t_marks, .ref h_t_powers, .int t_leaves, .int t_splits, .ref h_t_tree, .ref h_t_ahead, .ref h_t_behind, .ref h_t_before, .int t_done, .int t_undone, .ref h_t_rows, .ref h_t_met, .ref h_t_metSizes, .int t_metMany, .int t_treesSeen, .ref h_t_chosen, .ref h_t_tape, .int t_taped, .int t_place, .int t_isWrong, .int t_toldGenus, .int t_toldMarks, .ref h_t_toldPowers, .ref h_t_powerPlaces, .int t_isTree, .int t_toldLeaves, .int t_leavesPlace, .int t_toldSplits, .ref h_t_toldTree, .ref h_t_splitPlaces, .ref h_t_layers, .int t_isWhy, .ref h_t_paper, .int t_papered, .ref h_t_held, .ref h_t_numbers, .ref h_t_sizes, .ref h_t_heldLeaves, .ref h_t_items, .ref h_t_kept, .int t_isKept])), (h_t_held, .inl (cI, 6, .inl a_t_held)), (h_t_heldLeaves, .inl (cI, 6, .inl a_t_heldLeaves)), (h_t_sizes, .inl (cI, 6, .inl a_t_sizes)), (h_t_items, .inl (cI, 120, .inl a_t_items)), (h_t_tree, .inl (cI, 3, .inl a_t_tree))] sz) := by
  refine Met.ofW (cc := cX9_common_) (maxL := 4) (ret := (some .int)) (by decide) rfl ?_
  intro p e s m args below meth c s₁ B hml hv
  obtain ⟨rfl, hsz, hP, hK, hD0⟩ := hv
  have hx := B.exec
  have hb := B.bytes
  have hr := B.returns
  have hts := atoms_spec (ws := wsX9_common_) B.pre
  have hta : ∀ w ∈ wA, w.before ([.ref h_t, .int p0] : List Value).toArray s = true := hta_of hts
  have hown : s.vm.findClass RX9 = some m.cls := findClass_of_methodNamed B.named
  have hlocks := B.notSynchronized
  subst hsz
  have hD := hD0.self (sz := s.heap.size)
  generalize hAe : va_A [(h_t, .inr (8, [.int t_genus, .int t_marks, .ref h_t_powers, .int t_leaves, .int t_splits, .ref h_t_tree, .ref h_t_ahead, .ref h_t_behind, .ref h_t_before, .int t_done, .int t_undone, .ref h_t_rows, .ref h_t_met, .ref h_t_metSizes, .int t_metMany, .int t_treesSeen, .ref h_t_chosen, .ref h_t_tape, .int t_taped, .int t_place, .int t_isWrong, .int t_toldGenus, .int t_toldMarks, .ref h_t_toldPowers, .ref h_t_powerPlaces, .int t_isTree, .int t_toldLeaves, .int t_leavesPlace, .int t_toldSplits, .ref h_t_toldTree, .ref h_t_splitPlaces, .ref h_t_layers, .int t_isWhy, .ref h_t_paper, .int t_papered, .ref h_t_held, .ref h_t_numbers, .ref h_t_sizes, .ref h_t_heldLeaves, .ref h_t_items, .ref h_t_kept, .int t_isKept])), (h_t_held, .inl (cI, 6, .inl a_t_held)), (h_t_heldLeaves, .inl (cI, 6, .inl a_t_heldLeaves)), (h_t_sizes, .inl (cI, 6, .inl a_t_sizes)), (h_t_items, .inl (cI, 120, .inl a_t_items)), (h_t_tree, .inl (cI, 3, .inl a_t_tree))] s.heap.size = A at hD ⊢
  have hA : ∀ q : Nat, s.heap.size ≤ q → A q := fun q h => by rw [← hAe]; exact Or.inr h
  have hS : va_S A s.heap s.heap [] := va_S.rf
  have hl := lv_entry ([.ref h_t, .int p0]) (n := 4) (Nat.le_of_ble_eq_true rfl)
  rw [lg_entry_eq]
  generalize (lg_sl ([.ref h_t, .int p0]) ++ List.replicate (4 - (lg_sl ([.ref h_t, .int p0])).length) Slot.unset).toArray = ls at hl ⊢
  have hl : lv_has ls 4 [(0, .ref h_t), (1, .int p0)] := hl
  have hinX9 : ∀ w ∈ wsX90, w ∈ wsX9_common_ := hin_of in_X9
  have h := hF
  unfold F_X9_common_ at h
  refine lv_iload_n hx hb dX9_common__0 rfl (lv_at hl 1 rfl) ?_
  obtain ⟨x1, hx1, h⟩ := bd_e h
  try dsimp only at h
  refine k_SiU (n := 1) (As := [.int p0]) (rest := []) hx hb hml hown hts (c_X9_isHolder l G cI cJ cD cH s.heap.size p0 x1 hx1) gX9_common__X9_isHolder rfl rfl rfl (by decide +kernel) ⟨by first | exact Nat.le_of_ble_eq_true rfl | (simp only [headSpec]; omega), by first | exact Nat.le_of_ble_eq_true rfl | (simp only [headSpec]; omega)⟩ hK hP hD hS hA [] (by decide) rfl rfl rfl hl.1 (Nat.le_of_ble_eq_true rfl) dX9_common__1 ⟨Nat.zero_le _, Nat.zero_le _⟩ (fun hp1 H locs hP hS => ?_)
  refine lv_if_ne (tgt := 9) hx hb dX9_common__4 (by decide) (fun c2 => ?_) (fun c2 => ?_)
  rotate_left
  · have h := it_p h c2
    refine lv_iconst (v := (-1 : Int32)) hx hb dX9_common__7 (by decide) ?_
    have h9 := Option.some.inj h
    have e9 : (-1 : Int32) = r0 := congrArg (fun z9 => z9) h9
    rw [← e9]
    exact k_iret hx hb hr hlocks hP hS rfl dX9_common__8
  have h := it_n h c2
  refine lv_aload_n hx hb dX9_common__9 rfl (lv_at hl 0 rfl) ?_
  refine va_get (D := G) (ci := 8) (v := .ref h_t_held) (C := RX9) (T := TX9) (N := 42) hx hb hts hinX9 hown hK hP 0 rfl rfl 35 (by decide) (hta _ mw_623) (fun _ h9 => h9) rfl dX9_common__10 ?_
  refine lv_iload_n hx hb dX9_common__13 rfl (lv_at hl 1 rfl) ?_
  obtain ⟨hn3, h⟩ := ck_e h
  refine va_iald hx hb hK hP 1 0 rfl rfl hn3 dX9_common__14 ?_
  refine lv_iconst (v := (2 : Int32)) hx hb dX9_common__15 (by decide) ?_
  refine lv_icmp_eq (tgt := 36) hx hb dX9_common__16 (by decide) (fun c4 => ?_) (fun c4 => ?_)
  rotate_left
  · have h := it_n h c4
    refine lv_aload_n hx hb dX9_common__19 rfl (lv_at hl 0 rfl) ?_
    refine va_get (D := G) (ci := 8) (v := .ref h_t_held) (C := RX9) (T := TX9) (N := 42) hx hb hts hinX9 hown hK hP 0 rfl rfl 35 (by decide) (hta _ mw_623) (fun _ h9 => h9) rfl dX9_common__20 ?_
    refine lv_iload_n hx hb dX9_common__23 rfl (lv_at hl 1 rfl) ?_
    obtain ⟨hn12, h⟩ := ck_e h
    refine va_iald hx hb hK hP 1 0 rfl rfl hn12 dX9_common__24 ?_
    refine lv_if_ne (tgt := 33) hx hb dX9_common__25 (by decide) (fun c13 => ?_) (fun c13 => ?_)
    · have h := it_n h c13
      refine lv_bipush (v := (-12 : Int32)) hx hb dX9_common__33 (by decide) ?_
      have h9 := Option.some.inj h
      have e9 : (-12 : Int32) = r0 := congrArg (fun z9 => z9) h9
      rw [← e9]
      exact k_iret hx hb hr hlocks hP hS rfl dX9_common__35
    have h := it_p h c13
    refine lv_bipush (v := (-11 : Int32)) hx hb dX9_common__28 (by decide) ?_
    refine lv_goto (tgt := 35) hx hb dX9_common__30 (by decide) ?_
    have h9 := Option.some.inj h
    have e9 : (-11 : Int32) = r0 := congrArg (fun z9 => z9) h9
    rw [← e9]
    exact k_iret hx hb hr hlocks hP hS rfl dX9_common__35
  have h := it_p h c4
  refine lv_aload_n hx hb dX9_common__36 rfl (lv_at hl 0 rfl) ?_
  refine va_get (D := G) (ci := 8) (v := .ref h_t_heldLeaves) (C := RX9) (T := TX9) (N := 42) hx hb hts hinX9 hown hK hP 0 rfl rfl 38 (by decide) (hta _ mw_626) (fun _ h9 => h9) rfl dX9_common__37 ?_
  refine lv_iload_n hx hb dX9_common__40 rfl (lv_at hl 1 rfl) ?_
  obtain ⟨hn5, h⟩ := ck_e h
  refine va_iald hx hb hK hP 2 0 rfl rfl hn5 dX9_common__41 ?_
  refine lv_aload_n hx hb dX9_common__42 rfl (lv_at hl 0 rfl) ?_
  refine va_get (D := G) (ci := 8) (v := .int t_leaves) (C := RX9) (T := TX9) (N := 42) hx hb hts hinX9 hown hK hP 0 rfl rfl 3 (by decide) (hta _ mw_606) (fun _ h9 => h9) rfl dX9_common__43 ?_
  refine lv_icmp_eq (tgt := 52) hx hb dX9_common__46 (by decide) (fun c6 => ?_) (fun c6 => ?_)
  rotate_left
  · have h := it_n h c6
    refine lv_bipush (v := (-5 : Int32)) hx hb dX9_common__49 (by decide) ?_
    have h9 := Option.some.inj h
    have e9 : (-5 : Int32) = r0 := congrArg (fun z9 => z9) h9
    rw [← e9]
    exact k_iret hx hb hr hlocks hP hS rfl dX9_common__51
  have h := it_p h c6
  refine lv_iconst (v := (0 : Int32)) hx hb dX9_common__52 (by decide) ?_
  refine lv_istore_n (lv' := [(2, .int (0 : Int32)), (0, .ref h_t), (1, .int p0)]) hx hb dX9_common__53 rfl hl (by decide) rfl (fun ls hl => ?_)
  refine lv_iconst (v := (0 : Int32)) hx hb dX9_common__54 (by decide) ?_
  refine lv_istore_n (lv' := [(3, .int (0 : Int32)), (2, .int (0 : Int32)), (0, .ref h_t), (1, .int p0)]) hx hb dX9_common__55 rfl hl (by decide) rfl (fun ls hl => ?_)
  have hK_X9_common__56_98 : ∀  (vK56_98_0 : Int32) (H : Heap) (locs : List Loc) (ls : Array Slot), va_P G vwCl [(h_t, .inr (8, [.int t_genus, .int t_marks, .ref h_t_powers, .int t_leaves, .int t_splits, .ref h_t_tree, .ref h_t_ahead, .ref h_t_behind, .ref h_t_before, .int t_done, .int t_undone, .ref h_t_rows, .ref h_t_met, .ref h_t_metSizes, .int t_metMany, .int t_treesSeen, .ref h_t_chosen, .ref h_t_tape, .int t_taped, .int t_place, .int t_isWrong, .int t_toldGenus, .int t_toldMarks, .ref h_t_toldPowers, .ref h_t_powerPlaces, .int t_isTree, .int t_toldLeaves, .int t_leavesPlace, .int t_toldSplits, .ref h_t_toldTree, .ref h_t_splitPlaces, .ref h_t_layers, .int t_isWhy, .ref h_t_paper, .int t_papered, .ref h_t_held, .ref h_t_numbers, .ref h_t_sizes, .ref h_t_heldLeaves, .ref h_t_items, .ref h_t_kept, .int t_isKept])), (h_t_held, .inl (cI, 6, .inl a_t_held)), (h_t_heldLeaves, .inl (cI, 6, .inl a_t_heldLeaves)), (h_t_sizes, .inl (cI, 6, .inl a_t_sizes)), (h_t_items, .inl (cI, 120, .inl a_t_items)), (h_t_tree, .inl (cI, 3, .inl a_t_tree))] H → va_D A [(h_t, .inr (8, [.int t_genus, .int t_marks, .ref h_t_powers, .int t_leaves, .int t_splits, .ref h_t_tree, .ref h_t_ahead, .ref h_t_behind, .ref h_t_before, .int t_done, .int t_undone, .ref h_t_rows, .ref h_t_met, .ref h_t_metSizes, .int t_metMany, .int t_treesSeen, .ref h_t_chosen, .ref h_t_tape, .int t_taped, .int t_place, .int t_isWrong, .int t_toldGenus, .int t_toldMarks, .ref h_t_toldPowers, .ref h_t_powerPlaces, .int t_isTree, .int t_toldLeaves, .int t_leavesPlace, .int t_toldSplits, .ref h_t_toldTree, .ref h_t_splitPlaces, .ref h_t_layers, .int t_isWhy, .ref h_t_paper, .int t_papered, .ref h_t_held, .ref h_t_numbers, .ref h_t_sizes, .ref h_t_heldLeaves, .ref h_t_items, .ref h_t_kept, .int t_isKept])), (h_t_held, .inl (cI, 6, .inl a_t_held)), (h_t_heldLeaves, .inl (cI, 6, .inl a_t_heldLeaves)), (h_t_sizes, .inl (cI, 6, .inl a_t_sizes)), (h_t_items, .inl (cI, 120, .inl a_t_items)), (h_t_tree, .inl (cI, 3, .inl a_t_tree))] → va_S A s.heap H locs → lv_has ls 4 [(2, .int vK56_98_0)] → K_X9_common__56_98 vK56_98_0 = some r0 → W p l e (headSpec wsX9_common_ ({ frames := 2, cells := 0, slots := 0, locals := 45 })).room s m ([.ref h_t, .int p0] : List Value).toArray below meth c H locs 0 0 (MQ below (va_Qi (fun r (_ : Unit) => r = r0 ∧ True) (fun _ t => va_P G vwCl [(h_t, .inr (8, [.int t_genus, .int t_marks, .ref h_t_powers, .int t_leaves, .int t_splits, .ref h_t_tree, .ref h_t_ahead, .ref h_t_behind, .ref h_t_before, .int t_done, .int t_undone, .ref h_t_rows, .ref h_t_met, .ref h_t_metSizes, .int t_metMany, .int t_treesSeen, .ref h_t_chosen, .ref h_t_tape, .int t_taped, .int t_place, .int t_isWrong, .int t_toldGenus, .int t_toldMarks, .ref h_t_toldPowers, .ref h_t_powerPlaces, .int t_isTree, .int t_toldLeaves, .int t_leavesPlace, .int t_toldSplits, .ref h_t_toldTree, .ref h_t_splitPlaces, .ref h_t_layers, .int t_isWhy, .ref h_t_paper, .int t_papered, .ref h_t_held, .ref h_t_numbers, .ref h_t_sizes, .ref h_t_heldLeaves, .ref h_t_items, .ref h_t_kept, .int t_isKept])), (h_t_held, .inl (cI, 6, .inl a_t_held)), (h_t_heldLeaves, .inl (cI, 6, .inl a_t_heldLeaves)), (h_t_sizes, .inl (cI, 6, .inl a_t_sizes)), (h_t_items, .inl (cI, 120, .inl a_t_items)), (h_t_tree, .inl (cI, 3, .inl a_t_tree))] t.heap) A) ([.ref h_t, .int p0] : List Value).toArray s 0 0 A) (F0 m 98 ls []) := by
    intro vK56_98_0 H locs ls hP hD hS hl h
    unfold K_X9_common__56_98 at h
    refine lv_iload_n hx hb dX9_common__98 rfl (lv_at hl 0 rfl) ?_
    have h9 := Option.some.inj h
    have e9 : vK56_98_0 = r0 := congrArg (fun z9 => z9) h9
    rw [← e9]
    exact k_iret hx hb hr hlocks hP hS rfl dX9_common__99
  have hL56 : ∀ (n56 : Nat) (vL56_0 : Int32) (vL56_1 : Int32) (H : Heap) (locs : List Loc) (ls : Array Slot), va_P G vwCl [(h_t, .inr (8, [.int t_genus, .int t_marks, .ref h_t_powers, .int t_leaves, .int t_splits, .ref h_t_tree, .ref h_t_ahead, .ref h_t_behind, .ref h_t_before, .int t_done, .int t_undone, .ref h_t_rows, .ref h_t_met, .ref h_t_metSizes, .int t_metMany, .int t_treesSeen, .ref h_t_chosen, .ref h_t_tape, .int t_taped, .int t_place, .int t_isWrong, .int t_toldGenus, .int t_toldMarks, .ref h_t_toldPowers, .ref h_t_powerPlaces, .int t_isTree, .int t_toldLeaves, .int t_leavesPlace, .int t_toldSplits, .ref h_t_toldTree, .ref h_t_splitPlaces, .ref h_t_layers, .int t_isWhy, .ref h_t_paper, .int t_papered, .ref h_t_held, .ref h_t_numbers, .ref h_t_sizes, .ref h_t_heldLeaves, .ref h_t_items, .ref h_t_kept, .int t_isKept])), (h_t_held, .inl (cI, 6, .inl a_t_held)), (h_t_heldLeaves, .inl (cI, 6, .inl a_t_heldLeaves)), (h_t_sizes, .inl (cI, 6, .inl a_t_sizes)), (h_t_items, .inl (cI, 120, .inl a_t_items)), (h_t_tree, .inl (cI, 3, .inl a_t_tree))] H → va_D A [(h_t, .inr (8, [.int t_genus, .int t_marks, .ref h_t_powers, .int t_leaves, .int t_splits, .ref h_t_tree, .ref h_t_ahead, .ref h_t_behind, .ref h_t_before, .int t_done, .int t_undone, .ref h_t_rows, .ref h_t_met, .ref h_t_metSizes, .int t_metMany, .int t_treesSeen, .ref h_t_chosen, .ref h_t_tape, .int t_taped, .int t_place, .int t_isWrong, .int t_toldGenus, .int t_toldMarks, .ref h_t_toldPowers, .ref h_t_powerPlaces, .int t_isTree, .int t_toldLeaves, .int t_leavesPlace, .int t_toldSplits, .ref h_t_toldTree, .ref h_t_splitPlaces, .ref h_t_layers, .int t_isWhy, .ref h_t_paper, .int t_papered, .ref h_t_held, .ref h_t_numbers, .ref h_t_sizes, .ref h_t_heldLeaves, .ref h_t_items, .ref h_t_kept, .int t_isKept])), (h_t_held, .inl (cI, 6, .inl a_t_held)), (h_t_heldLeaves, .inl (cI, 6, .inl a_t_heldLeaves)), (h_t_sizes, .inl (cI, 6, .inl a_t_sizes)), (h_t_items, .inl (cI, 120, .inl a_t_items)), (h_t_tree, .inl (cI, 3, .inl a_t_tree))] → va_S A s.heap H locs → lv_has ls 4 [(0, .ref h_t), (1, .int p0), (2, .int vL56_0), (3, .int vL56_1)] → wq2 (B_X9_common__56 t_splits a_t_sizes a_t_items a_t_tree p0 K_X9_common__56_98) n56 vL56_0 vL56_1 = some r0 → W p l e (headSpec wsX9_common_ ({ frames := 2, cells := 0, slots := 0, locals := 45 })).room s m ([.ref h_t, .int p0] : List Value).toArray below meth c H locs 0 0 (MQ below (va_Qi (fun r (_ : Unit) => r = r0 ∧ True) (fun _ t => va_P G vwCl [(h_t, .inr (8, [.int t_genus, .int t_marks, .ref h_t_powers, .int t_leaves, .int t_splits, .ref h_t_tree, .ref h_t_ahead, .ref h_t_behind, .ref h_t_before, .int t_done, .int t_undone, .ref h_t_rows, .ref h_t_met, .ref h_t_metSizes, .int t_metMany, .int t_treesSeen, .ref h_t_chosen, .ref h_t_tape, .int t_taped, .int t_place, .int t_isWrong, .int t_toldGenus, .int t_toldMarks, .ref h_t_toldPowers, .ref h_t_powerPlaces, .int t_isTree, .int t_toldLeaves, .int t_leavesPlace, .int t_toldSplits, .ref h_t_toldTree, .ref h_t_splitPlaces, .ref h_t_layers, .int t_isWhy, .ref h_t_paper, .int t_papered, .ref h_t_held, .ref h_t_numbers, .ref h_t_sizes, .ref h_t_heldLeaves, .ref h_t_items, .ref h_t_kept, .int t_isKept])), (h_t_held, .inl (cI, 6, .inl a_t_held)), (h_t_heldLeaves, .inl (cI, 6, .inl a_t_heldLeaves)), (h_t_sizes, .inl (cI, 6, .inl a_t_sizes)), (h_t_items, .inl (cI, 120, .inl a_t_items)), (h_t_tree, .inl (cI, 3, .inl a_t_tree))] t.heap) A) ([.ref h_t, .int p0] : List Value).toArray s 0 0 A) (F0 m 56 ls []) := by
    intro n56
    induction n56 with
    | zero => intro vL56_0 vL56_1 H locs ls hP hD hS hl h; exact wq2_0 h
    | succ n56 ih56 =>
      intro vL56_0 vL56_1 H locs ls hP hD hS hl h
      have h := wq2_s h
      unfold B_X9_common__56 at h
      refine lv_iload_n hx hb dX9_common__56 rfl (lv_at hl 3 rfl) ?_
      refine lv_aload_n hx hb dX9_common__57 rfl (lv_at hl 0 rfl) ?_
      refine va_get (D := G) (ci := 8) (v := .ref h_t_sizes) (C := RX9) (T := TX9) (N := 42) hx hb hts hinX9 hown hK hP 0 rfl rfl 37 (by decide) (hta _ mw_625) (fun _ h9 => h9) rfl dX9_common__58 ?_
      refine lv_iload_n hx hb dX9_common__61 rfl (lv_at hl 1 rfl) ?_
      obtain ⟨hn7, h⟩ := ck_e h
      refine va_iald hx hb hK hP 3 0 rfl rfl hn7 dX9_common__62 ?_
      refine lv_icmp_ge (tgt := 98) hx hb dX9_common__63 (by decide) (fun c8 => ?_) (fun c8 => ?_)
      · have h := it_p h c8
        exact hK_X9_common__56_98 vL56_0 _ _ _ hP hD hS (lv_sub hl [2] rfl) h
      have h := it_n h c8
      refine lv_iload_n hx hb dX9_common__66 rfl (lv_at hl 2 rfl) ?_
      refine lv_aload_n hx hb dX9_common__67 rfl (lv_at hl 0 rfl) ?_
      refine lv_aload_n hx hb dX9_common__68 rfl (lv_at hl 0 rfl) ?_
      refine va_get (D := G) (ci := 8) (v := .ref h_t_items) (C := RX9) (T := TX9) (N := 42) hx hb hts hinX9 hown hK hP 0 rfl rfl 39 (by decide) (hta _ mw_627) (fun _ h9 => h9) rfl dX9_common__69 ?_
      refine lv_bipush (v := (20 : Int32)) hx hb dX9_common__72 (by decide) ?_
      refine lv_iload_n hx hb dX9_common__74 rfl (lv_at hl 1 rfl) ?_
      refine lv_imul hx hb dX9_common__75 ?_
      refine lv_iload_n hx hb dX9_common__76 rfl (lv_at hl 3 rfl) ?_
      refine lv_iadd hx hb dX9_common__77 ?_
      obtain ⟨hn9, h⟩ := ck_e h
      refine va_iald hx hb hK hP 4 0 rfl rfl hn9 dX9_common__78 ?_
      obtain ⟨x10, hx10, h⟩ := bd_e h
      try dsimp only at h
      refine k_ViU (n := 1) (As := [.int (a_t_items (((20 : Int32) * p0) + vL56_1).toNatClampNeg)]) (rest := [.int vL56_0]) hx hb hml hown hts (c_X9_placeOf l G cI cJ cD cH H.size h_t h_t_tree h_t_powers h_t_ahead h_t_behind h_t_before h_t_rows h_t_met h_t_metSizes h_t_chosen h_t_tape h_t_toldPowers h_t_powerPlaces h_t_toldTree h_t_splitPlaces h_t_layers h_t_paper h_t_held h_t_numbers h_t_sizes h_t_heldLeaves h_t_items h_t_kept t_genus t_marks t_leaves t_splits t_done t_undone t_metMany t_treesSeen t_taped t_place t_isWrong t_toldGenus t_toldMarks t_isTree t_toldLeaves t_leavesPlace t_toldSplits t_isWhy t_papered t_isKept a_t_tree (a_t_items (((20 : Int32) * p0) + vL56_1).toNatClampNeg) x10 hx10) gX9_common__X9_placeOf rfl rfl rfl (by decide +kernel) ⟨by first | exact Nat.le_of_ble_eq_true rfl | (simp only [headSpec]; omega), by first | exact Nat.le_of_ble_eq_true rfl | (simp only [headSpec]; omega)⟩ hK hP hD hS hA [0, 5] (by decide) rfl (ci := 8) rfl rfl rfl rfl rfl hl.1 (Nat.le_of_ble_eq_true rfl) dX9_common__79 ⟨Nat.zero_le _, Nat.zero_le _⟩ (fun hp10 H locs hP hS => ?_)
      refine lv_if_lt (tgt := 89) hx hb dX9_common__82 (by decide) (fun c11 => ?_) (fun c11 => ?_)
      · have h := it_p h c11
        refine lv_iconst (v := (0 : Int32)) hx hb dX9_common__89 (by decide) ?_
        refine lv_iadd hx hb dX9_common__90 ?_
        refine lv_istore_n (lv' := [(2, .int (vL56_0 + (0 : Int32))), (0, .ref h_t), (1, .int p0), (3, .int vL56_1)]) hx hb dX9_common__91 rfl hl (by decide) rfl (fun ls hl => ?_)
        refine lv_iinc (v := (vL56_1 + (1 : Int32))) (lv' := [(3, .int (vL56_1 + (1 : Int32))), (2, .int (vL56_0 + (0 : Int32))), (0, .ref h_t), (1, .int p0)]) hx hb dX9_common__92 hl (k := 3) rfl (by first | rfl | decide) (by decide) rfl (fun ls hl => ?_)
        refine lv_goto (tgt := 56) hx hb dX9_common__95 (by decide) ?_
        exact ih56 (vL56_0 + (0 : Int32)) (vL56_1 + (1 : Int32)) _ _ _ hP hD hS (lv_sub hl [2, 3, 1, 0] rfl) h
      have h := it_n h c11
      refine lv_iconst (v := (1 : Int32)) hx hb dX9_common__85 (by decide) ?_
      refine lv_goto (tgt := 90) hx hb dX9_common__86 (by decide) ?_
      refine lv_iadd hx hb dX9_common__90 ?_
      refine lv_istore_n (lv' := [(2, .int (vL56_0 + (1 : Int32))), (0, .ref h_t), (1, .int p0), (3, .int vL56_1)]) hx hb dX9_common__91 rfl hl (by decide) rfl (fun ls hl => ?_)
      refine lv_iinc (v := (vL56_1 + (1 : Int32))) (lv' := [(3, .int (vL56_1 + (1 : Int32))), (2, .int (vL56_0 + (1 : Int32))), (0, .ref h_t), (1, .int p0)]) hx hb dX9_common__92 hl (k := 3) rfl (by first | rfl | decide) (by decide) rfl (fun ls hl => ?_)
      refine lv_goto (tgt := 56) hx hb dX9_common__95 (by decide) ?_
      exact ih56 (vL56_0 + (1 : Int32)) (vL56_1 + (1 : Int32)) _ _ _ hP hD hS (lv_sub hl [2, 3, 1, 0] rfl) h
  exact hL56 FU (0 : Int32) (0 : Int32) _ _ _ hP hD hS (lv_sub hl [2, 3, 1, 0] rfl) h

/-! X9_row -/
set_option maxHeartbeats 4000000 in
set_option maxRecDepth 100000 in
theorem tK_X9_row_38_62 {l : Launch} {G : va_G} {cI cJ cD cH : ClassId} {h_t : Nat} {h_t_held : Nat} {h_t_sizes : Nat} {h_t_items : Nat} {h_t_powers : Nat} {h_t_tree : Nat} {h_t_ahead : Nat} {h_t_behind : Nat} {h_t_before : Nat} {h_t_rows : Nat} {h_t_met : Nat} {h_t_metSizes : Nat} {h_t_chosen : Nat} {h_t_tape : Nat} {h_t_toldPowers : Nat} {h_t_powerPlaces : Nat} {h_t_toldTree : Nat} {h_t_splitPlaces : Nat} {h_t_layers : Nat} {h_t_paper : Nat} {h_t_numbers : Nat} {h_t_heldLeaves : Nat} {h_t_kept : Nat} {t_genus : Int32} {t_marks : Int32} {t_leaves : Int32} {t_splits : Int32} {t_done : Int32} {t_undone : Int32} {t_metMany : Int32} {t_treesSeen : Int32} {t_taped : Int32} {t_place : Int32} {t_isWrong : Int32} {t_toldGenus : Int32} {t_toldMarks : Int32} {t_isTree : Int32} {t_toldLeaves : Int32} {t_leavesPlace : Int32} {t_toldSplits : Int32} {t_isWhy : Int32} {t_papered : Int32} {t_isKept : Int32} {a_t_held : Nat → Int32} {a_t_sizes : Nat → Int32} {p0 : Int32} {p1 : Int32} {r0 : Int32} {w0 : Nat → Int32} {w1 : Nat → Int32} {w2 : Nat → Int32} {p : Program} {e : Env} {s : State} {m : MethodId} {below : List Frame} {meth : Method} {c : Code} {A : Nat → Prop} (hx : p.tables.exec = Jvm.exec) (hb : c.code = cX9_row) (hr : meth.sig.returnType = (some .int)) (hml : c.maxLocals = 4) (hts : ∀ w ∈ wsX9_row, w.before ([.ref h_t, .int p0, .int p1] : List Value).toArray s = true) (hown : s.vm.findClass RX9 = some m.cls) (hlocks : meth.locks = false) (hK : va_K G vwCl (k_T cI cJ cD cH) s) (hA : ∀ q : Nat, s.heap.size ≤ q → A q) : ∀  (vK38_62_0 : Nat → Int32) (H : Heap) (locs : List Loc) (ls : Array Slot), va_P G vwCl [(h_t, .inr (8, [.int t_genus, .int t_marks, .ref h_t_powers, .int t_leaves, .int t_splits, .ref h_t_tree, .ref h_t_ahead, .ref h_t_behind, .ref h_t_before, .int t_done, .int t_undone, .ref h_t_rows, .ref h_t_met, .ref h_t_metSizes, .int t_metMany, .int t_treesSeen, .ref h_t_chosen, .ref h_t_tape, .int t_taped, .int t_place, .int t_isWrong, .int t_toldGenus, .int t_toldMarks, .ref h_t_toldPowers, .ref h_t_powerPlaces, .int t_isTree, .int t_toldLeaves, .int t_leavesPlace, .int t_toldSplits, .ref h_t_toldTree, .ref h_t_splitPlaces, .ref h_t_layers, .int t_isWhy, .ref h_t_paper, .int t_papered, .ref h_t_held, .ref h_t_numbers, .ref h_t_sizes, .ref h_t_heldLeaves, .ref h_t_items, .ref h_t_kept, .int t_isKept])), (h_t_held, .inl (cI, 6, .inl (upd a_t_held p0.toNatClampNeg (3 : Int32)))), (h_t_sizes, .inl (cI, 6, .inl (upd a_t_sizes p0.toNatClampNeg p1))), (h_t_items, .inl (cI, 120, .inl vK38_62_0))] H → va_D A [(h_t, .inr (8, [.int t_genus, .int t_marks, .ref h_t_powers, .int t_leaves, .int t_splits, .ref h_t_tree, .ref h_t_ahead, .ref h_t_behind, .ref h_t_before, .int t_done, .int t_undone, .ref h_t_rows, .ref h_t_met, .ref h_t_metSizes, .int t_metMany, .int t_treesSeen, .ref h_t_chosen, .ref h_t_tape, .int t_taped, .int t_place, .int t_isWrong, .int t_toldGenus, .int t_toldMarks, .ref h_t_toldPowers, .ref h_t_powerPlaces, .int t_isTree, .int t_toldLeaves, .int t_leavesPlace, .int t_toldSplits, .ref h_t_toldTree, .ref h_t_splitPlaces, .ref h_t_layers, .int t_isWhy, .ref h_t_paper, .int t_papered, .ref h_t_held, .ref h_t_numbers, .ref h_t_sizes, .ref h_t_heldLeaves, .ref h_t_items, .ref h_t_kept, .int t_isKept])), (h_t_held, .inl (cI, 6, .inl (upd a_t_held p0.toNatClampNeg (3 : Int32)))), (h_t_sizes, .inl (cI, 6, .inl (upd a_t_sizes p0.toNatClampNeg p1))), (h_t_items, .inl (cI, 120, .inl vK38_62_0))] → va_S A s.heap H locs → lv_has ls 4 [(2, .int p1)] → K_X9_row_38_62 a_t_held a_t_sizes p0 p1 vK38_62_0 = some (r0, w0, w1, w2) → W p l e (headSpec wsX9_row ({ frames := 2, cells := 0, slots := 0, locals := 45 })).room s m ([.ref h_t, .int p0, .int p1] : List Value).toArray below meth c H locs 0 0 (MQ below (va_Qi (fun r (_ : Unit) => r = r0 ∧ True) (fun _ t => va_P G vwCl [(h_t, .inr (8, [.int t_genus, .int t_marks, .ref h_t_powers, .int t_leaves, .int t_splits, .ref h_t_tree, .ref h_t_ahead, .ref h_t_behind, .ref h_t_before, .int t_done, .int t_undone, .ref h_t_rows, .ref h_t_met, .ref h_t_metSizes, .int t_metMany, .int t_treesSeen, .ref h_t_chosen, .ref h_t_tape, .int t_taped, .int t_place, .int t_isWrong, .int t_toldGenus, .int t_toldMarks, .ref h_t_toldPowers, .ref h_t_powerPlaces, .int t_isTree, .int t_toldLeaves, .int t_leavesPlace, .int t_toldSplits, .ref h_t_toldTree, .ref h_t_splitPlaces, .ref h_t_layers, .int t_isWhy, .ref h_t_paper, .int t_papered, .ref h_t_held, .ref h_t_numbers, .ref h_t_sizes, .ref h_t_heldLeaves, .ref h_t_items, .ref h_t_kept, .int t_isKept])), (h_t_held, .inl (cI, 6, .inl w0)), (h_t_sizes, .inl (cI, 6, .inl w1)), (h_t_items, .inl (cI, 120, .inl w2))] t.heap) A) ([.ref h_t, .int p0, .int p1] : List Value).toArray s 0 0 A) (F0 m 62 ls []) := by
  have hta : ∀ w ∈ wA, w.before ([.ref h_t, .int p0, .int p1] : List Value).toArray s = true := hta_of hts
  have hinX9 : ∀ w ∈ wsX90, w ∈ wsX9_row := hin_of in_X9
  intro vK38_62_0 H locs ls hP hD hS hl h
  unfold K_X9_row_38_62 at h
  refine lv_iload_n hx hb dX9_row_62 rfl (lv_at hl 0 rfl) ?_
  have h9 := Option.some.inj h
  have e9 : p1 = r0 := congrArg (fun z9 => z9.1) h9
  rw [← e9]
  have e9 : (upd a_t_held p0.toNatClampNeg (3 : Int32)) = w0 := congrArg (fun z9 => z9.2.1) h9
  rw [← e9]
  have e9 : (upd a_t_sizes p0.toNatClampNeg p1) = w1 := congrArg (fun z9 => z9.2.2.1) h9
  rw [← e9]
  have e9 : vK38_62_0 = w2 := congrArg (fun z9 => z9.2.2.2) h9
  rw [← e9]
  exact k_iret hx hb hr hlocks hP hS rfl dX9_row_63
set_option maxHeartbeats 4000000 in
set_option maxRecDepth 100000 in
theorem c_X9_row (l : Launch) (G : va_G) (cI cJ cD cH : ClassId) (sz : Nat) (h_t : Nat) (h_t_held : Nat) (h_t_sizes : Nat) (h_t_items : Nat) (h_t_powers : Nat) (h_t_tree : Nat) (h_t_ahead : Nat) (h_t_behind : Nat) (h_t_before : Nat) (h_t_rows : Nat) (h_t_met : Nat) (h_t_metSizes : Nat) (h_t_chosen : Nat) (h_t_tape : Nat) (h_t_toldPowers : Nat) (h_t_powerPlaces : Nat) (h_t_toldTree : Nat) (h_t_splitPlaces : Nat) (h_t_layers : Nat) (h_t_paper : Nat) (h_t_numbers : Nat) (h_t_heldLeaves : Nat) (h_t_kept : Nat) (t_genus : Int32) (t_marks : Int32) (t_leaves : Int32) (t_splits : Int32) (t_done : Int32) (t_undone : Int32) (t_metMany : Int32) (t_treesSeen : Int32) (t_taped : Int32) (t_place : Int32) (t_isWrong : Int32) (t_toldGenus : Int32) (t_toldMarks : Int32) (t_isTree : Int32) (t_toldLeaves : Int32) (t_leavesPlace : Int32) (t_toldSplits : Int32) (t_isWhy : Int32) (t_papered : Int32) (t_isKept : Int32) (a_t_held : Nat → Int32) (a_t_sizes : Nat → Int32) (a_t_items : Nat → Int32) (p0 : Int32) (p1 : Int32) (r0 : Int32) (w0 : Nat → Int32) (w1 : Nat → Int32) (w2 : Nat → Int32) (hF : F_X9_row a_t_held a_t_sizes a_t_items p0 p1 = some (r0, w0, w1, w2)) : Met l yX9_row wsX9_row ({ frames := 2, cells := 0, slots := 0, locals := 45 }) (k_pre G (k_T cI cJ cD cH) [(h_t, .inr (8, [.int t_genus, .int t_marks, .ref h_t_powers, .int t_leaves, .int t_splits, .ref h_t_tree, .ref h_t_ahead, .ref h_t_behind, .ref h_t_before, .int t_done, .int t_undone, .ref h_t_rows, .ref h_t_met, .ref h_t_metSizes, .int t_metMany, .int t_treesSeen, .ref h_t_chosen, .ref h_t_tape, .int t_taped, .int t_place, .int t_isWrong, .int t_toldGenus, .int t_toldMarks, .ref h_t_toldPowers, .ref h_t_powerPlaces, .int t_isTree, .int t_toldLeaves, .int t_leavesPlace, .int t_toldSplits, .ref h_t_toldTree, .ref h_t_splitPlaces, .ref h_t_layers, .int t_isWhy, .ref h_t_paper, .int t_papered, .ref h_t_held, .ref h_t_numbers, .ref h_t_sizes, .ref h_t_heldLeaves, .ref h_t_items, .ref h_t_kept, .int t_isKept])), (h_t_held, .inl (cI, 6, .inl a_t_held)), (h_t_sizes, .inl (cI, 6, .inl a_t_sizes)), (h_t_items, .inl (cI, 120, .inl a_t_items))] sz [.ref h_t, .int p0, .int p1]) (va_Qi (fun r (_ : Unit) => r = r0 ∧ True) (fun _ t => va_P G vwCl [(h_t, .inr (8, [.int t_genus, .int t_marks, .ref h_t_powers, .int t_leaves, .int t_splits, .ref h_t_tree, .ref h_t_ahead, .ref h_t_behind, .ref h_t_before, .int t_done, .int t_undone, .ref h_t_rows, .ref h_t_met, .ref h_t_metSizes, .int t_metMany, .int t_treesSeen, .ref h_t_chosen, .ref h_t_tape, .int t_taped, .int t_place, .int t_isWrong, .int t_toldGenus, .int t_toldMarks, .ref h_t_toldPowers, .ref h_t_powerPlaces, .int t_isTree, .int t_toldLeaves, .int t_leavesPlace, .int t_toldSplits, .ref h_t_toldTree, .ref h_t_splitPlaces, .ref h_t_layers, .int t_isWhy, .ref h_t_paper, .int t_papered, .ref h_t_held, .ref h_t_numbers, .ref h_t_sizes, .ref h_t_heldLeaves, .ref h_t_items, .ref h_t_kept, .int t_isKept])), (h_t_held, .inl (cI, 6, .inl w0)), (h_t_sizes, .inl (cI, 6, .inl w1)), (h_t_items, .inl (cI, 120, .inl w2))] t.heap) (va_A [(h_t, .inr (8, [.int t_genus, .int t_marks, .ref h_t_powers, .int t_leaves, .int t_splits, .ref h_t_tree, .ref h_t_ahead, .ref h_t_behind, .ref h_t_before, .int t_done, .int t_undone, .ref h_t_rows, .ref h_t_met, .ref h_t_metSizes, .int t_metMany, .int t_treesSeen, .ref h_t_chosen, .ref h_t_tape, .int t_taped, .int t_place, .int t_isWrong, .int t_toldGenus, .int t_toldMarks, .ref h_t_toldPowers, .ref h_t_powerPlaces, .int t_isTree, .int t_toldLeaves, .int t_leavesPlace, .int t_toldSplits, .ref h_t_toldTree, .ref h_t_splitPlaces, .ref h_t_layers, .int t_isWhy, .ref h_t_paper, .int t_papered, .ref h_t_held, .ref h_t_numbers, .ref h_t_sizes, .ref h_t_heldLeaves, .ref h_t_items, .ref h_t_kept, .int t_isKept])), (h_t_held, .inl (cI, 6, .inl a_t_held)), (h_t_sizes, .inl (cI, 6, .inl a_t_sizes)), (h_t_items, .inl (cI, 120, .inl a_t_items))] sz)) 0 0 (va_A [(h_t, .inr (8, [.int t_genus, .int t_marks, .ref h_t_powers, .int t_leaves, .int t_splits, .ref h_t_tree, .ref h_t_ahead, .ref h_t_behind, .ref h_t_before, .int t_done, .int t_undone, .ref h_t_rows, .ref h_t_met, .ref h_t_metSizes, .int t_metMany, .int t_treesSeen, .ref h_t_chosen, .ref h_t_tape, .int t_taped, .int t_place, .int t_isWrong, .int t_toldGenus, .int t_toldMarks, .ref h_t_toldPowers, .ref h_t_powerPlaces, .int t_isTree, .int t_toldLeaves, .int t_leavesPlace, .int t_toldSplits, .ref h_t_toldTree, .ref h_t_splitPlaces, .ref h_t_layers, .int t_isWhy, .ref h_t_paper, .int t_papered, .ref h_t_held, .ref h_t_numbers, .ref h_t_sizes, .ref h_t_heldLeaves, .ref h_t_items, .ref h_t_kept, .int t_isKept])), (h_t_held, .inl (cI, 6, .inl a_t_held)), (h_t_sizes, .inl (cI, 6, .inl a_t_sizes)), (h_t_items, .inl (cI, 120, .inl a_t_items))] sz) := by
  refine Met.ofW (cc := cX9_row) (maxL := 4) (ret := (some .int)) (by decide) rfl ?_
  intro p e s m args below meth c s₁ B hml hv
  obtain ⟨rfl, hsz, hP, hK, hD0⟩ := hv
  have hx := B.exec
  have hb := B.bytes
  have hr := B.returns
  have hts := atoms_spec (ws := wsX9_row) B.pre
  have hta : ∀ w ∈ wA, w.before ([.ref h_t, .int p0, .int p1] : List Value).toArray s = true := hta_of hts
  have hown : s.vm.findClass RX9 = some m.cls := findClass_of_methodNamed B.named
  have hlocks := B.notSynchronized
  subst hsz
  have hD := hD0.self (sz := s.heap.size)
  generalize hAe : va_A [(h_t, .inr (8, [.int t_genus, .int t_marks, .ref h_t_powers, .int t_leaves, .int t_splits, .ref h_t_tree, .ref h_t_ahead, .ref h_t_behind, .ref h_t_before, .int t_done, .int t_undone, .ref h_t_rows, .ref h_t_met, .ref h_t_metSizes, .int t_metMany, .int t_treesSeen, .ref h_t_chosen, .ref h_t_tape, .int t_taped, .int t_place, .int t_isWrong, .int t_toldGenus, .int t_toldMarks, .ref h_t_toldPowers, .ref h_t_powerPlaces, .int t_isTree, .int t_toldLeaves, .int t_leavesPlace, .int t_toldSplits, .ref h_t_toldTree, .ref h_t_splitPlaces, .ref h_t_layers, .int t_isWhy, .ref h_t_paper, .int t_papered, .ref h_t_held, .ref h_t_numbers, .ref h_t_sizes, .ref h_t_heldLeaves, .ref h_t_items, .ref h_t_kept, .int t_isKept])), (h_t_held, .inl (cI, 6, .inl a_t_held)), (h_t_sizes, .inl (cI, 6, .inl a_t_sizes)), (h_t_items, .inl (cI, 120, .inl a_t_items))] s.heap.size = A at hD ⊢
  have hA : ∀ q : Nat, s.heap.size ≤ q → A q := fun q h => by rw [← hAe]; exact Or.inr h
  have hS : va_S A s.heap s.heap [] := va_S.rf
  have hl := lv_entry ([.ref h_t, .int p0, .int p1]) (n := 4) (Nat.le_of_ble_eq_true rfl)
  rw [lg_entry_eq]
  generalize (lg_sl ([.ref h_t, .int p0, .int p1]) ++ List.replicate (4 - (lg_sl ([.ref h_t, .int p0, .int p1])).length) Slot.unset).toArray = ls at hl ⊢
  have hl : lv_has ls 4 [(0, .ref h_t), (1, .int p0), (2, .int p1)] := hl
  have hinX9 : ∀ w ∈ wsX90, w ∈ wsX9_row := hin_of in_X9
  have h := hF
  unfold F_X9_row at h
  refine lv_iload_n hx hb dX9_row_0 rfl (lv_at hl 1 rfl) ?_
  obtain ⟨x1, hx1, h⟩ := bd_e h
  try dsimp only at h
  refine k_SiU (n := 1) (As := [.int p0]) (rest := []) hx hb hml hown hts (c_X9_isHolder l G cI cJ cD cH s.heap.size p0 x1 hx1) gX9_row_X9_isHolder rfl rfl rfl (by decide +kernel) ⟨by first | exact Nat.le_of_ble_eq_true rfl | (simp only [headSpec]; omega), by first | exact Nat.le_of_ble_eq_true rfl | (simp only [headSpec]; omega)⟩ hK hP hD hS hA [] (by decide) rfl rfl rfl hl.1 (Nat.le_of_ble_eq_true rfl) dX9_row_1 ⟨Nat.zero_le _, Nat.zero_le _⟩ (fun hp1 H locs hP hS => ?_)
  refine lv_if_eq (tgt := 13) hx hb dX9_row_4 (by decide) (fun c2 => ?_) (fun c2 => ?_)
  · have h := it_p h c2
    refine lv_iconst (v := (-1 : Int32)) hx hb dX9_row_13 (by decide) ?_
    have h9 := Option.some.inj h
    have e9 : (-1 : Int32) = r0 := congrArg (fun z9 => z9.1) h9
    rw [← e9]
    have e9 : a_t_held = w0 := congrArg (fun z9 => z9.2.1) h9
    rw [← e9]
    have e9 : a_t_sizes = w1 := congrArg (fun z9 => z9.2.2.1) h9
    rw [← e9]
    have e9 : a_t_items = w2 := congrArg (fun z9 => z9.2.2.2) h9
    rw [← e9]
    exact k_iret hx hb hr hlocks hP hS rfl dX9_row_14
  have h := it_n h c2
  refine lv_iload_n hx hb dX9_row_7 rfl (lv_at hl 2 rfl) ?_
  refine lv_bipush (v := (20 : Int32)) hx hb dX9_row_8 (by decide) ?_
  refine lv_icmp_le (tgt := 15) hx hb dX9_row_10 (by decide) (fun c3 => ?_) (fun c3 => ?_)
  rotate_left
  · have h := it_n h c3
    refine lv_iconst (v := (-1 : Int32)) hx hb dX9_row_13 (by decide) ?_
    have h9 := Option.some.inj h
    have e9 : (-1 : Int32) = r0 := congrArg (fun z9 => z9.1) h9
    rw [← e9]
    have e9 : a_t_held = w0 := congrArg (fun z9 => z9.2.1) h9
    rw [← e9]
    have e9 : a_t_sizes = w1 := congrArg (fun z9 => z9.2.2.1) h9
    rw [← e9]
    have e9 : a_t_items = w2 := congrArg (fun z9 => z9.2.2.2) h9
    rw [← e9]
    exact k_iret hx hb hr hlocks hP hS rfl dX9_row_14
  have h := it_p h c3
  refine lv_iload_n hx hb dX9_row_15 rfl (lv_at hl 2 rfl) ?_
  refine lv_if_ge (tgt := 22) hx hb dX9_row_16 (by decide) (fun c4 => ?_) (fun c4 => ?_)
  rotate_left
  · have h := it_n h c4
    refine lv_bipush (v := (-14 : Int32)) hx hb dX9_row_19 (by decide) ?_
    have h9 := Option.some.inj h
    have e9 : (-14 : Int32) = r0 := congrArg (fun z9 => z9.1) h9
    rw [← e9]
    have e9 : a_t_held = w0 := congrArg (fun z9 => z9.2.1) h9
    rw [← e9]
    have e9 : a_t_sizes = w1 := congrArg (fun z9 => z9.2.2.1) h9
    rw [← e9]
    have e9 : a_t_items = w2 := congrArg (fun z9 => z9.2.2.2) h9
    rw [← e9]
    exact k_iret hx hb hr hlocks hP hS rfl dX9_row_21
  have h := it_p h c4
  refine lv_aload_n hx hb dX9_row_22 rfl (lv_at hl 0 rfl) ?_
  refine va_get (D := G) (ci := 8) (v := .ref h_t_held) (C := RX9) (T := TX9) (N := 42) hx hb hts hinX9 hown hK hP 0 rfl rfl 35 (by decide) (hta _ mw_623) (fun _ h9 => h9) rfl dX9_row_23 ?_
  refine lv_iload_n hx hb dX9_row_26 rfl (lv_at hl 1 rfl) ?_
  refine lv_iconst (v := (3 : Int32)) hx hb dX9_row_27 (by decide) ?_
  obtain ⟨hn5, h⟩ := ck_e h
  refine va_iast hx hb hK hP hD hS 1 0 rfl rfl hn5 dX9_row_28 (fun H locs hP hD hS => ?_)
  have hP : va_P G vwCl [(h_t, .inr (8, [.int t_genus, .int t_marks, .ref h_t_powers, .int t_leaves, .int t_splits, .ref h_t_tree, .ref h_t_ahead, .ref h_t_behind, .ref h_t_before, .int t_done, .int t_undone, .ref h_t_rows, .ref h_t_met, .ref h_t_metSizes, .int t_metMany, .int t_treesSeen, .ref h_t_chosen, .ref h_t_tape, .int t_taped, .int t_place, .int t_isWrong, .int t_toldGenus, .int t_toldMarks, .ref h_t_toldPowers, .ref h_t_powerPlaces, .int t_isTree, .int t_toldLeaves, .int t_leavesPlace, .int t_toldSplits, .ref h_t_toldTree, .ref h_t_splitPlaces, .ref h_t_layers, .int t_isWhy, .ref h_t_paper, .int t_papered, .ref h_t_held, .ref h_t_numbers, .ref h_t_sizes, .ref h_t_heldLeaves, .ref h_t_items, .ref h_t_kept, .int t_isKept])), (h_t_held, .inl (cI, 6, .inl (upd a_t_held p0.toNatClampNeg (3 : Int32)))), (h_t_sizes, .inl (cI, 6, .inl a_t_sizes)), (h_t_items, .inl (cI, 120, .inl a_t_items))] H := hP
  have hD : va_D A [(h_t, .inr (8, [.int t_genus, .int t_marks, .ref h_t_powers, .int t_leaves, .int t_splits, .ref h_t_tree, .ref h_t_ahead, .ref h_t_behind, .ref h_t_before, .int t_done, .int t_undone, .ref h_t_rows, .ref h_t_met, .ref h_t_metSizes, .int t_metMany, .int t_treesSeen, .ref h_t_chosen, .ref h_t_tape, .int t_taped, .int t_place, .int t_isWrong, .int t_toldGenus, .int t_toldMarks, .ref h_t_toldPowers, .ref h_t_powerPlaces, .int t_isTree, .int t_toldLeaves, .int t_leavesPlace, .int t_toldSplits, .ref h_t_toldTree, .ref h_t_splitPlaces, .ref h_t_layers, .int t_isWhy, .ref h_t_paper, .int t_papered, .ref h_t_held, .ref h_t_numbers, .ref h_t_sizes, .ref h_t_heldLeaves, .ref h_t_items, .ref h_t_kept, .int t_isKept])), (h_t_held, .inl (cI, 6, .inl (upd a_t_held p0.toNatClampNeg (3 : Int32)))), (h_t_sizes, .inl (cI, 6, .inl a_t_sizes)), (h_t_items, .inl (cI, 120, .inl a_t_items))] := hD
  refine lv_aload_n hx hb dX9_row_29 rfl (lv_at hl 0 rfl) ?_
  refine va_get (D := G) (ci := 8) (v := .ref h_t_sizes) (C := RX9) (T := TX9) (N := 42) hx hb hts hinX9 hown hK hP 0 rfl rfl 37 (by decide) (hta _ mw_625) (fun _ h9 => h9) rfl dX9_row_30 ?_
  refine lv_iload_n hx hb dX9_row_33 rfl (lv_at hl 1 rfl) ?_
  refine lv_iload_n hx hb dX9_row_34 rfl (lv_at hl 2 rfl) ?_
  obtain ⟨hn6, h⟩ := ck_e h
  refine va_iast hx hb hK hP hD hS 2 0 rfl rfl hn6 dX9_row_35 (fun H locs hP hD hS => ?_)
  have hP : va_P G vwCl [(h_t, .inr (8, [.int t_genus, .int t_marks, .ref h_t_powers, .int t_leaves, .int t_splits, .ref h_t_tree, .ref h_t_ahead, .ref h_t_behind, .ref h_t_before, .int t_done, .int t_undone, .ref h_t_rows, .ref h_t_met, .ref h_t_metSizes, .int t_metMany, .int t_treesSeen, .ref h_t_chosen, .ref h_t_tape, .int t_taped, .int t_place, .int t_isWrong, .int t_toldGenus, .int t_toldMarks, .ref h_t_toldPowers, .ref h_t_powerPlaces, .int t_isTree, .int t_toldLeaves, .int t_leavesPlace, .int t_toldSplits, .ref h_t_toldTree, .ref h_t_splitPlaces, .ref h_t_layers, .int t_isWhy, .ref h_t_paper, .int t_papered, .ref h_t_held, .ref h_t_numbers, .ref h_t_sizes, .ref h_t_heldLeaves, .ref h_t_items, .ref h_t_kept, .int t_isKept])), (h_t_held, .inl (cI, 6, .inl (upd a_t_held p0.toNatClampNeg (3 : Int32)))), (h_t_sizes, .inl (cI, 6, .inl (upd a_t_sizes p0.toNatClampNeg p1))), (h_t_items, .inl (cI, 120, .inl a_t_items))] H := hP
  have hD : va_D A [(h_t, .inr (8, [.int t_genus, .int t_marks, .ref h_t_powers, .int t_leaves, .int t_splits, .ref h_t_tree, .ref h_t_ahead, .ref h_t_behind, .ref h_t_before, .int t_done, .int t_undone, .ref h_t_rows, .ref h_t_met, .ref h_t_metSizes, .int t_metMany, .int t_treesSeen, .ref h_t_chosen, .ref h_t_tape, .int t_taped, .int t_place, .int t_isWrong, .int t_toldGenus, .int t_toldMarks, .ref h_t_toldPowers, .ref h_t_powerPlaces, .int t_isTree, .int t_toldLeaves, .int t_leavesPlace, .int t_toldSplits, .ref h_t_toldTree, .ref h_t_splitPlaces, .ref h_t_layers, .int t_isWhy, .ref h_t_paper, .int t_papered, .ref h_t_held, .ref h_t_numbers, .ref h_t_sizes, .ref h_t_heldLeaves, .ref h_t_items, .ref h_t_kept, .int t_isKept])), (h_t_held, .inl (cI, 6, .inl (upd a_t_held p0.toNatClampNeg (3 : Int32)))), (h_t_sizes, .inl (cI, 6, .inl (upd a_t_sizes p0.toNatClampNeg p1))), (h_t_items, .inl (cI, 120, .inl a_t_items))] := hD
  refine lv_iconst (v := (0 : Int32)) hx hb dX9_row_36 (by decide) ?_
  refine lv_istore_n (lv' := [(3, .int (0 : Int32)), (0, .ref h_t), (1, .int p0), (2, .int p1)]) hx hb dX9_row_37 rfl hl (by decide) rfl (fun ls hl => ?_)
  have hL38 : ∀ (n38 : Nat) (vL38_0 : Nat → Int32) (vL38_1 : Int32) (H : Heap) (locs : List Loc) (ls : Array Slot), va_P G vwCl [(h_t, .inr (8, [.int t_genus, .int t_marks, .ref h_t_powers, .int t_leaves, .int t_splits, .ref h_t_tree, .ref h_t_ahead, .ref h_t_behind, .ref h_t_before, .int t_done, .int t_undone, .ref h_t_rows, .ref h_t_met, .ref h_t_metSizes, .int t_metMany, .int t_treesSeen, .ref h_t_chosen, .ref h_t_tape, .int t_taped, .int t_place, .int t_isWrong, .int t_toldGenus, .int t_toldMarks, .ref h_t_toldPowers, .ref h_t_powerPlaces, .int t_isTree, .int t_toldLeaves, .int t_leavesPlace, .int t_toldSplits, .ref h_t_toldTree, .ref h_t_splitPlaces, .ref h_t_layers, .int t_isWhy, .ref h_t_paper, .int t_papered, .ref h_t_held, .ref h_t_numbers, .ref h_t_sizes, .ref h_t_heldLeaves, .ref h_t_items, .ref h_t_kept, .int t_isKept])), (h_t_held, .inl (cI, 6, .inl (upd a_t_held p0.toNatClampNeg (3 : Int32)))), (h_t_sizes, .inl (cI, 6, .inl (upd a_t_sizes p0.toNatClampNeg p1))), (h_t_items, .inl (cI, 120, .inl vL38_0))] H → va_D A [(h_t, .inr (8, [.int t_genus, .int t_marks, .ref h_t_powers, .int t_leaves, .int t_splits, .ref h_t_tree, .ref h_t_ahead, .ref h_t_behind, .ref h_t_before, .int t_done, .int t_undone, .ref h_t_rows, .ref h_t_met, .ref h_t_metSizes, .int t_metMany, .int t_treesSeen, .ref h_t_chosen, .ref h_t_tape, .int t_taped, .int t_place, .int t_isWrong, .int t_toldGenus, .int t_toldMarks, .ref h_t_toldPowers, .ref h_t_powerPlaces, .int t_isTree, .int t_toldLeaves, .int t_leavesPlace, .int t_toldSplits, .ref h_t_toldTree, .ref h_t_splitPlaces, .ref h_t_layers, .int t_isWhy, .ref h_t_paper, .int t_papered, .ref h_t_held, .ref h_t_numbers, .ref h_t_sizes, .ref h_t_heldLeaves, .ref h_t_items, .ref h_t_kept, .int t_isKept])), (h_t_held, .inl (cI, 6, .inl (upd a_t_held p0.toNatClampNeg (3 : Int32)))), (h_t_sizes, .inl (cI, 6, .inl (upd a_t_sizes p0.toNatClampNeg p1))), (h_t_items, .inl (cI, 120, .inl vL38_0))] → va_S A s.heap H locs → lv_has ls 4 [(0, .ref h_t), (1, .int p0), (2, .int p1), (3, .int vL38_1)] → wq2 (B_X9_row_38 p0 (K_X9_row_38_62 a_t_held a_t_sizes p0 p1)) n38 vL38_0 vL38_1 = some (r0, w0, w1, w2) → W p l e (headSpec wsX9_row ({ frames := 2, cells := 0, slots := 0, locals := 45 })).room s m ([.ref h_t, .int p0, .int p1] : List Value).toArray below meth c H locs 0 0 (MQ below (va_Qi (fun r (_ : Unit) => r = r0 ∧ True) (fun _ t => va_P G vwCl [(h_t, .inr (8, [.int t_genus, .int t_marks, .ref h_t_powers, .int t_leaves, .int t_splits, .ref h_t_tree, .ref h_t_ahead, .ref h_t_behind, .ref h_t_before, .int t_done, .int t_undone, .ref h_t_rows, .ref h_t_met, .ref h_t_metSizes, .int t_metMany, .int t_treesSeen, .ref h_t_chosen, .ref h_t_tape, .int t_taped, .int t_place, .int t_isWrong, .int t_toldGenus, .int t_toldMarks, .ref h_t_toldPowers, .ref h_t_powerPlaces, .int t_isTree, .int t_toldLeaves, .int t_leavesPlace, .int t_toldSplits, .ref h_t_toldTree, .ref h_t_splitPlaces, .ref h_t_layers, .int t_isWhy, .ref h_t_paper, .int t_papered, .ref h_t_held, .ref h_t_numbers, .ref h_t_sizes, .ref h_t_heldLeaves, .ref h_t_items, .ref h_t_kept, .int t_isKept])), (h_t_held, .inl (cI, 6, .inl w0)), (h_t_sizes, .inl (cI, 6, .inl w1)), (h_t_items, .inl (cI, 120, .inl w2))] t.heap) A) ([.ref h_t, .int p0, .int p1] : List Value).toArray s 0 0 A) (F0 m 38 ls []) := by
    intro n38
    induction n38 with
    | zero => intro vL38_0 vL38_1 H locs ls hP hD hS hl h; exact wq2_0 h
    | succ n38 ih38 =>
      intro vL38_0 vL38_1 H locs ls hP hD hS hl h
      have h := wq2_s h
      unfold B_X9_row_38 at h
      refine lv_iload_n hx hb dX9_row_38 rfl (lv_at hl 3 rfl) ?_
      refine lv_bipush (v := (20 : Int32)) hx hb dX9_row_39 (by decide) ?_
      refine lv_icmp_ge (tgt := 62) hx hb dX9_row_41 (by decide) (fun c7 => ?_) (fun c7 => ?_)
      · have h := it_p h c7
        exact tK_X9_row_38_62 hx hb hr hml hts hown hlocks hK hA vL38_0 _ _ _ hP hD hS (lv_sub hl [2] rfl) h
      have h := it_n h c7
      refine lv_aload_n hx hb dX9_row_44 rfl (lv_at hl 0 rfl) ?_
      refine va_get (D := G) (ci := 8) (v := .ref h_t_items) (C := RX9) (T := TX9) (N := 42) hx hb hts hinX9 hown hK hP 0 rfl rfl 39 (by decide) (hta _ mw_627) (fun _ h9 => h9) rfl dX9_row_45 ?_
      refine lv_bipush (v := (20 : Int32)) hx hb dX9_row_48 (by decide) ?_
      refine lv_iload_n hx hb dX9_row_50 rfl (lv_at hl 1 rfl) ?_
      refine lv_imul hx hb dX9_row_51 ?_
      refine lv_iload_n hx hb dX9_row_52 rfl (lv_at hl 3 rfl) ?_
      refine lv_iadd hx hb dX9_row_53 ?_
      refine lv_iconst (v := (0 : Int32)) hx hb dX9_row_54 (by decide) ?_
      obtain ⟨hn8, h⟩ := ck_e h
      refine va_iast hx hb hK hP hD hS 3 0 rfl rfl hn8 dX9_row_55 (fun H locs hP hD hS => ?_)
      have hP : va_P G vwCl [(h_t, .inr (8, [.int t_genus, .int t_marks, .ref h_t_powers, .int t_leaves, .int t_splits, .ref h_t_tree, .ref h_t_ahead, .ref h_t_behind, .ref h_t_before, .int t_done, .int t_undone, .ref h_t_rows, .ref h_t_met, .ref h_t_metSizes, .int t_metMany, .int t_treesSeen, .ref h_t_chosen, .ref h_t_tape, .int t_taped, .int t_place, .int t_isWrong, .int t_toldGenus, .int t_toldMarks, .ref h_t_toldPowers, .ref h_t_powerPlaces, .int t_isTree, .int t_toldLeaves, .int t_leavesPlace, .int t_toldSplits, .ref h_t_toldTree, .ref h_t_splitPlaces, .ref h_t_layers, .int t_isWhy, .ref h_t_paper, .int t_papered, .ref h_t_held, .ref h_t_numbers, .ref h_t_sizes, .ref h_t_heldLeaves, .ref h_t_items, .ref h_t_kept, .int t_isKept])), (h_t_held, .inl (cI, 6, .inl (upd a_t_held p0.toNatClampNeg (3 : Int32)))), (h_t_sizes, .inl (cI, 6, .inl (upd a_t_sizes p0.toNatClampNeg p1))), (h_t_items, .inl (cI, 120, .inl (upd vL38_0 (((20 : Int32) * p0) + vL38_1).toNatClampNeg (0 : Int32))))] H := hP
      have hD : va_D A [(h_t, .inr (8, [.int t_genus, .int t_marks, .ref h_t_powers, .int t_leaves, .int t_splits, .ref h_t_tree, .ref h_t_ahead, .ref h_t_behind, .ref h_t_before, .int t_done, .int t_undone, .ref h_t_rows, .ref h_t_met, .ref h_t_metSizes, .int t_metMany, .int t_treesSeen, .ref h_t_chosen, .ref h_t_tape, .int t_taped, .int t_place, .int t_isWrong, .int t_toldGenus, .int t_toldMarks, .ref h_t_toldPowers, .ref h_t_powerPlaces, .int t_isTree, .int t_toldLeaves, .int t_leavesPlace, .int t_toldSplits, .ref h_t_toldTree, .ref h_t_splitPlaces, .ref h_t_layers, .int t_isWhy, .ref h_t_paper, .int t_papered, .ref h_t_held, .ref h_t_numbers, .ref h_t_sizes, .ref h_t_heldLeaves, .ref h_t_items, .ref h_t_kept, .int t_isKept])), (h_t_held, .inl (cI, 6, .inl (upd a_t_held p0.toNatClampNeg (3 : Int32)))), (h_t_sizes, .inl (cI, 6, .inl (upd a_t_sizes p0.toNatClampNeg p1))), (h_t_items, .inl (cI, 120, .inl (upd vL38_0 (((20 : Int32) * p0) + vL38_1).toNatClampNeg (0 : Int32))))] := hD
      refine lv_iinc (v := (vL38_1 + (1 : Int32))) (lv' := [(3, .int (vL38_1 + (1 : Int32))), (0, .ref h_t), (1, .int p0), (2, .int p1)]) hx hb dX9_row_56 hl (k := 3) rfl (by first | rfl | decide) (by decide) rfl (fun ls hl => ?_)
      refine lv_goto (tgt := 38) hx hb dX9_row_59 (by decide) ?_
      exact ih38 (upd vL38_0 (((20 : Int32) * p0) + vL38_1).toNatClampNeg (0 : Int32)) (vL38_1 + (1 : Int32)) _ _ _ hP hD hS (lv_sub hl [1, 2, 3, 0] rfl) h
  exact hL38 FU a_t_items (0 : Int32) _ _ _ hP hD hS (lv_sub hl [1, 2, 3, 0] rfl) h

/-! X9_rowless -/
set_option maxHeartbeats 4000000 in
set_option maxRecDepth 100000 in
theorem c_X9_rowless (l : Launch) (G : va_G) (cI cJ cD cH : ClassId) (sz : Nat) (h_t : Nat) (h_t_held : Nat) (h_t_powers : Nat) (h_t_tree : Nat) (h_t_ahead : Nat) (h_t_behind : Nat) (h_t_before : Nat) (h_t_rows : Nat) (h_t_met : Nat) (h_t_metSizes : Nat) (h_t_chosen : Nat) (h_t_tape : Nat) (h_t_toldPowers : Nat) (h_t_powerPlaces : Nat) (h_t_toldTree : Nat) (h_t_splitPlaces : Nat) (h_t_layers : Nat) (h_t_paper : Nat) (h_t_numbers : Nat) (h_t_sizes : Nat) (h_t_heldLeaves : Nat) (h_t_items : Nat) (h_t_kept : Nat) (t_genus : Int32) (t_marks : Int32) (t_leaves : Int32) (t_splits : Int32) (t_done : Int32) (t_undone : Int32) (t_metMany : Int32) (t_treesSeen : Int32) (t_taped : Int32) (t_place : Int32) (t_isWrong : Int32) (t_toldGenus : Int32) (t_toldMarks : Int32) (t_isTree : Int32) (t_toldLeaves : Int32) (t_leavesPlace : Int32) (t_toldSplits : Int32) (t_isWhy : Int32) (t_papered : Int32) (t_isKept : Int32) (a_t_held : Nat → Int32) (p0 : Int32) (r0 : Int32) (hF : F_X9_rowless a_t_held p0 = some r0) : Met l yX9_rowless wsX9_rowless ({ frames := 0, cells := 0, slots := 0, locals := 0 }) (k_pre G (k_T cI cJ cD cH) [(h_t, .inr (8, [.int t_genus, .int t_marks, .ref h_t_powers, .int t_leaves, .int t_splits, .ref h_t_tree, .ref h_t_ahead, .ref h_t_behind, .ref h_t_before, .int t_done, .int t_undone, .ref h_t_rows, .ref h_t_met, .ref h_t_metSizes, .int t_metMany, .int t_treesSeen, .ref h_t_chosen, .ref h_t_tape, .int t_taped, .int t_place, .int t_isWrong, .int t_toldGenus, .int t_toldMarks, .ref h_t_toldPowers, .ref h_t_powerPlaces, .int t_isTree, .int t_toldLeaves, .int t_leavesPlace, .int t_toldSplits, .ref h_t_toldTree, .ref h_t_splitPlaces, .ref h_t_layers, .int t_isWhy, .ref h_t_paper, .int t_papered, .ref h_t_held, .ref h_t_numbers, .ref h_t_sizes, .ref h_t_heldLeaves, .ref h_t_items, .ref h_t_kept, .int t_isKept])), (h_t_held, .inl (cI, 6, .inl a_t_held))] sz [.ref h_t, .int p0]) (va_Qi (fun r (_ : Unit) => r = r0 ∧ True) (fun _ t => va_P G vwCl [(h_t, .inr (8, [.int t_genus, .int t_marks, .ref h_t_powers, .int t_leaves, .int t_splits, .ref h_t_tree, .ref h_t_ahead, .ref h_t_behind, .ref h_t_before, .int t_done, .int t_undone, .ref h_t_rows, .ref h_t_met, .ref h_t_metSizes, .int t_metMany, .int t_treesSeen, .ref h_t_chosen, .ref h_t_tape, .int t_taped, .int t_place, .int t_isWrong, .int t_toldGenus, .int t_toldMarks, .ref h_t_toldPowers, .ref h_t_powerPlaces, .int t_isTree, .int t_toldLeaves, .int t_leavesPlace, .int t_toldSplits, .ref h_t_toldTree, .ref h_t_splitPlaces, .ref h_t_layers, .int t_isWhy, .ref h_t_paper, .int t_papered, .ref h_t_held, .ref h_t_numbers, .ref h_t_sizes, .ref h_t_heldLeaves, .ref h_t_items, .ref h_t_kept, .int t_isKept])), (h_t_held, .inl (cI, 6, .inl a_t_held))] t.heap) (va_A [(h_t, .inr (8, [.int t_genus, .int t_marks, .ref h_t_powers, .int t_leaves, .int t_splits, .ref h_t_tree, .ref h_t_ahead, .ref h_t_behind, .ref h_t_before, .int t_done, .int t_undone, .ref h_t_rows, .ref h_t_met, .ref h_t_metSizes, .int t_metMany, .int t_treesSeen, .ref h_t_chosen, .ref h_t_tape, .int t_taped, .int t_place, .int t_isWrong, .int t_toldGenus, .int t_toldMarks, .ref h_t_toldPowers, .ref h_t_powerPlaces, .int t_isTree, .int t_toldLeaves, .int t_leavesPlace, .int t_toldSplits, .ref h_t_toldTree, .ref h_t_splitPlaces, .ref h_t_layers, .int t_isWhy, .ref h_t_paper, .int t_papered, .ref h_t_held, .ref h_t_numbers, .ref h_t_sizes, .ref h_t_heldLeaves, .ref h_t_items, .ref h_t_kept, .int t_isKept])), (h_t_held, .inl (cI, 6, .inl a_t_held))] sz)) 0 0 (va_A [(h_t, .inr (8, [.int t_genus, .int t_marks, .ref h_t_powers, .int t_leaves, .int t_splits, .ref h_t_tree, .ref h_t_ahead, .ref h_t_behind, .ref h_t_before, .int t_done, .int t_undone, .ref h_t_rows, .ref h_t_met, .ref h_t_metSizes, .int t_metMany, .int t_treesSeen, .ref h_t_chosen, .ref h_t_tape, .int t_taped, .int t_place, .int t_isWrong, .int t_toldGenus, .int t_toldMarks, .ref h_t_toldPowers, .ref h_t_powerPlaces, .int t_isTree, .int t_toldLeaves, .int t_leavesPlace, .int t_toldSplits, .ref h_t_toldTree, .ref h_t_splitPlaces, .ref h_t_layers, .int t_isWhy, .ref h_t_paper, .int t_papered, .ref h_t_held, .ref h_t_numbers, .ref h_t_sizes, .ref h_t_heldLeaves, .ref h_t_items, .ref h_t_kept, .int t_isKept])), (h_t_held, .inl (cI, 6, .inl a_t_held))] sz) := by
  refine Met.ofW (cc := cX9_rowless) (maxL := 2) (ret := (some .int)) (by decide) rfl ?_
  intro p e s m args below meth c s₁ B hml hv
  obtain ⟨rfl, hsz, hP, hK, hD0⟩ := hv
  have hx := B.exec
  have hb := B.bytes
  have hr := B.returns
  have hts := atoms_spec (ws := wsX9_rowless) B.pre
  have hta : ∀ w ∈ wA, w.before ([.ref h_t, .int p0] : List Value).toArray s = true := hta_of hts
  have hown : s.vm.findClass RX9 = some m.cls := findClass_of_methodNamed B.named
  have hlocks := B.notSynchronized
  subst hsz
  have hD := hD0.self (sz := s.heap.size)
  generalize hAe : va_A [(h_t, .inr (8, [.int t_genus, .int t_marks, .ref h_t_powers, .int t_leaves, .int t_splits, .ref h_t_tree, .ref h_t_ahead, .ref h_t_behind, .ref h_t_before, .int t_done, .int t_undone, .ref h_t_rows, .ref h_t_met, .ref h_t_metSizes, .int t_metMany, .int t_treesSeen, .ref h_t_chosen, .ref h_t_tape, .int t_taped, .int t_place, .int t_isWrong, .int t_toldGenus, .int t_toldMarks, .ref h_t_toldPowers, .ref h_t_powerPlaces, .int t_isTree, .int t_toldLeaves, .int t_leavesPlace, .int t_toldSplits, .ref h_t_toldTree, .ref h_t_splitPlaces, .ref h_t_layers, .int t_isWhy, .ref h_t_paper, .int t_papered, .ref h_t_held, .ref h_t_numbers, .ref h_t_sizes, .ref h_t_heldLeaves, .ref h_t_items, .ref h_t_kept, .int t_isKept])), (h_t_held, .inl (cI, 6, .inl a_t_held))] s.heap.size = A at hD ⊢
  have hA : ∀ q : Nat, s.heap.size ≤ q → A q := fun q h => by rw [← hAe]; exact Or.inr h
  have hS : va_S A s.heap s.heap [] := va_S.rf
  have hl := lv_entry ([.ref h_t, .int p0]) (n := 2) (Nat.le_of_ble_eq_true rfl)
  rw [lg_entry_eq]
  generalize (lg_sl ([.ref h_t, .int p0]) ++ List.replicate (2 - (lg_sl ([.ref h_t, .int p0])).length) Slot.unset).toArray = ls at hl ⊢
  have hl : lv_has ls 2 [(0, .ref h_t), (1, .int p0)] := hl
  have hinX9 : ∀ w ∈ wsX90, w ∈ wsX9_rowless := hin_of in_X9
  have h := hF
  unfold F_X9_rowless at h
  refine lv_aload_n hx hb dX9_rowless_0 rfl (lv_at hl 0 rfl) ?_
  refine va_get (D := G) (ci := 8) (v := .ref h_t_held) (C := RX9) (T := TX9) (N := 42) hx hb hts hinX9 hown hK hP 0 rfl rfl 35 (by decide) (hta _ mw_623) (fun _ h9 => h9) rfl dX9_rowless_1 ?_
  refine lv_iload_n hx hb dX9_rowless_4 rfl (lv_at hl 1 rfl) ?_
  obtain ⟨hn1, h⟩ := ck_e h
  refine va_iald hx hb hK hP 1 0 rfl rfl hn1 dX9_rowless_5 ?_
  refine lv_if_ne (tgt := 14) hx hb dX9_rowless_6 (by decide) (fun c2 => ?_) (fun c2 => ?_)
  rotate_left
  · have h := it_p h c2
    refine lv_bipush (v := (-11 : Int32)) hx hb dX9_rowless_9 (by decide) ?_
    refine lv_goto (tgt := 30) hx hb dX9_rowless_11 (by decide) ?_
    have h9 := Option.some.inj h
    have e9 : (-11 : Int32) = r0 := congrArg (fun z9 => z9) h9
    rw [← e9]
    exact k_iret hx hb hr hlocks hP hS rfl dX9_rowless_30
  have h := it_n h c2
  refine lv_aload_n hx hb dX9_rowless_14 rfl (lv_at hl 0 rfl) ?_
  refine va_get (D := G) (ci := 8) (v := .ref h_t_held) (C := RX9) (T := TX9) (N := 42) hx hb hts hinX9 hown hK hP 0 rfl rfl 35 (by decide) (hta _ mw_623) (fun _ h9 => h9) rfl dX9_rowless_15 ?_
  refine lv_iload_n hx hb dX9_rowless_18 rfl (lv_at hl 1 rfl) ?_
  obtain ⟨hn3, h⟩ := ck_e h
  refine va_iald hx hb hK hP 1 0 rfl rfl hn3 dX9_rowless_19 ?_
  refine lv_iconst (v := (3 : Int32)) hx hb dX9_rowless_20 (by decide) ?_
  refine lv_icmp_ne (tgt := 28) hx hb dX9_rowless_21 (by decide) (fun c4 => ?_) (fun c4 => ?_)
  · have h := it_n h c4
    refine lv_bipush (v := (-12 : Int32)) hx hb dX9_rowless_28 (by decide) ?_
    have h9 := Option.some.inj h
    have e9 : (-12 : Int32) = r0 := congrArg (fun z9 => z9) h9
    rw [← e9]
    exact k_iret hx hb hr hlocks hP hS rfl dX9_rowless_30
  have h := it_p h c4
  refine lv_iconst (v := (0 : Int32)) hx hb dX9_rowless_24 (by decide) ?_
  refine lv_goto (tgt := 30) hx hb dX9_rowless_25 (by decide) ?_
  have h9 := Option.some.inj h
  have e9 : (0 : Int32) = r0 := congrArg (fun z9 => z9) h9
  rw [← e9]
  exact k_iret hx hb hr hlocks hP hS rfl dX9_rowless_30

/-! X9_set -/
set_option maxHeartbeats 4000000 in
set_option maxRecDepth 100000 in
theorem c_X9_set (l : Launch) (G : va_G) (cI cJ cD cH : ClassId) (sz : Nat) (h_t : Nat) (h_t_held : Nat) (h_t_sizes : Nat) (h_t_items : Nat) (h_t_powers : Nat) (h_t_tree : Nat) (h_t_ahead : Nat) (h_t_behind : Nat) (h_t_before : Nat) (h_t_rows : Nat) (h_t_met : Nat) (h_t_metSizes : Nat) (h_t_chosen : Nat) (h_t_tape : Nat) (h_t_toldPowers : Nat) (h_t_powerPlaces : Nat) (h_t_toldTree : Nat) (h_t_splitPlaces : Nat) (h_t_layers : Nat) (h_t_paper : Nat) (h_t_numbers : Nat) (h_t_heldLeaves : Nat) (h_t_kept : Nat) (t_genus : Int32) (t_marks : Int32) (t_leaves : Int32) (t_splits : Int32) (t_done : Int32) (t_undone : Int32) (t_metMany : Int32) (t_treesSeen : Int32) (t_taped : Int32) (t_place : Int32) (t_isWrong : Int32) (t_toldGenus : Int32) (t_toldMarks : Int32) (t_isTree : Int32) (t_toldLeaves : Int32) (t_leavesPlace : Int32) (t_toldSplits : Int32) (t_isWhy : Int32) (t_papered : Int32) (t_isKept : Int32) (a_t_held : Nat → Int32) (a_t_sizes : Nat → Int32) (a_t_items : Nat → Int32) (p0 : Int32) (p1 : Int32) (p2 : Int32) (r0 : Int32) (w0 : Nat → Int32) (hF : F_X9_set a_t_held a_t_sizes a_t_items p0 p1 p2 = some (r0, w0)) : Met l yX9_set wsX9_set ({ frames := 2, cells := 0, slots := 0, locals := 45 }) (k_pre G (k_T cI cJ cD cH) [(h_t, .inr (8, [.int t_genus, .int t_marks, .ref h_t_powers, .int t_leaves, .int t_splits, .ref h_t_tree, .ref h_t_ahead, .ref h_t_behind, .ref h_t_before, .int t_done, .int t_undone, .ref h_t_rows, .ref h_t_met, .ref h_t_metSizes, .int t_metMany, .int t_treesSeen, .ref h_t_chosen, .ref h_t_tape, .int t_taped, .int t_place, .int t_isWrong, .int t_toldGenus, .int t_toldMarks, .ref h_t_toldPowers, .ref h_t_powerPlaces, .int t_isTree, .int t_toldLeaves, .int t_leavesPlace, .int t_toldSplits, .ref h_t_toldTree, .ref h_t_splitPlaces, .ref h_t_layers, .int t_isWhy, .ref h_t_paper, .int t_papered, .ref h_t_held, .ref h_t_numbers, .ref h_t_sizes, .ref h_t_heldLeaves, .ref h_t_items, .ref h_t_kept, .int t_isKept])), (h_t_held, .inl (cI, 6, .inl a_t_held)), (h_t_sizes, .inl (cI, 6, .inl a_t_sizes)), (h_t_items, .inl (cI, 120, .inl a_t_items))] sz [.ref h_t, .int p0, .int p1, .int p2]) (va_Qi (fun r (_ : Unit) => r = r0 ∧ True) (fun _ t => va_P G vwCl [(h_t, .inr (8, [.int t_genus, .int t_marks, .ref h_t_powers, .int t_leaves, .int t_splits, .ref h_t_tree, .ref h_t_ahead, .ref h_t_behind, .ref h_t_before, .int t_done, .int t_undone, .ref h_t_rows, .ref h_t_met, .ref h_t_metSizes, .int t_metMany, .int t_treesSeen, .ref h_t_chosen, .ref h_t_tape, .int t_taped, .int t_place, .int t_isWrong, .int t_toldGenus, .int t_toldMarks, .ref h_t_toldPowers, .ref h_t_powerPlaces, .int t_isTree, .int t_toldLeaves, .int t_leavesPlace, .int t_toldSplits, .ref h_t_toldTree, .ref h_t_splitPlaces, .ref h_t_layers, .int t_isWhy, .ref h_t_paper, .int t_papered, .ref h_t_held, .ref h_t_numbers, .ref h_t_sizes, .ref h_t_heldLeaves, .ref h_t_items, .ref h_t_kept, .int t_isKept])), (h_t_held, .inl (cI, 6, .inl a_t_held)), (h_t_sizes, .inl (cI, 6, .inl a_t_sizes)), (h_t_items, .inl (cI, 120, .inl w0))] t.heap) (va_A [(h_t, .inr (8, [.int t_genus, .int t_marks, .ref h_t_powers, .int t_leaves, .int t_splits, .ref h_t_tree, .ref h_t_ahead, .ref h_t_behind, .ref h_t_before, .int t_done, .int t_undone, .ref h_t_rows, .ref h_t_met, .ref h_t_metSizes, .int t_metMany, .int t_treesSeen, .ref h_t_chosen, .ref h_t_tape, .int t_taped, .int t_place, .int t_isWrong, .int t_toldGenus, .int t_toldMarks, .ref h_t_toldPowers, .ref h_t_powerPlaces, .int t_isTree, .int t_toldLeaves, .int t_leavesPlace, .int t_toldSplits, .ref h_t_toldTree, .ref h_t_splitPlaces, .ref h_t_layers, .int t_isWhy, .ref h_t_paper, .int t_papered, .ref h_t_held, .ref h_t_numbers, .ref h_t_sizes, .ref h_t_heldLeaves, .ref h_t_items, .ref h_t_kept, .int t_isKept])), (h_t_held, .inl (cI, 6, .inl a_t_held)), (h_t_sizes, .inl (cI, 6, .inl a_t_sizes)), (h_t_items, .inl (cI, 120, .inl a_t_items))] sz)) 0 0 (va_A [(h_t, .inr (8, [.int t_genus, .int t_marks, .ref h_t_powers, .int t_leaves, .int t_splits, .ref h_t_tree, .ref h_t_ahead, .ref h_t_behind, .ref h_t_before, .int t_done, .int t_undone, .ref h_t_rows, .ref h_t_met, .ref h_t_metSizes, .int t_metMany, .int t_treesSeen, .ref h_t_chosen, .ref h_t_tape, .int t_taped, .int t_place, .int t_isWrong, .int t_toldGenus, .int t_toldMarks, .ref h_t_toldPowers, .ref h_t_powerPlaces, .int t_isTree, .int t_toldLeaves, .int t_leavesPlace, .int t_toldSplits, .ref h_t_toldTree, .ref h_t_splitPlaces, .ref h_t_layers, .int t_isWhy, .ref h_t_paper, .int t_papered, .ref h_t_held, .ref h_t_numbers, .ref h_t_sizes, .ref h_t_heldLeaves, .ref h_t_items, .ref h_t_kept, .int t_isKept])), (h_t_held, .inl (cI, 6, .inl a_t_held)), (h_t_sizes, .inl (cI, 6, .inl a_t_sizes)), (h_t_items, .inl (cI, 120, .inl a_t_items))] sz) := by
  refine Met.ofW (cc := cX9_set) (maxL := 4) (ret := (some .int)) (by decide) rfl ?_
  intro p e s m args below meth c s₁ B hml hv
  obtain ⟨rfl, hsz, hP, hK, hD0⟩ := hv
  have hx := B.exec
  have hb := B.bytes
  have hr := B.returns
  have hts := atoms_spec (ws := wsX9_set) B.pre
  have hta : ∀ w ∈ wA, w.before ([.ref h_t, .int p0, .int p1, .int p2] : List Value).toArray s = true := hta_of hts
  have hown : s.vm.findClass RX9 = some m.cls := findClass_of_methodNamed B.named
  have hlocks := B.notSynchronized
  subst hsz
  have hD := hD0.self (sz := s.heap.size)
  generalize hAe : va_A [(h_t, .inr (8, [.int t_genus, .int t_marks, .ref h_t_powers, .int t_leaves, .int t_splits, .ref h_t_tree, .ref h_t_ahead, .ref h_t_behind, .ref h_t_before, .int t_done, .int t_undone, .ref h_t_rows, .ref h_t_met, .ref h_t_metSizes, .int t_metMany, .int t_treesSeen, .ref h_t_chosen, .ref h_t_tape, .int t_taped, .int t_place, .int t_isWrong, .int t_toldGenus, .int t_toldMarks, .ref h_t_toldPowers, .ref h_t_powerPlaces, .int t_isTree, .int t_toldLeaves, .int t_leavesPlace, .int t_toldSplits, .ref h_t_toldTree, .ref h_t_splitPlaces, .ref h_t_layers, .int t_isWhy, .ref h_t_paper, .int t_papered, .ref h_t_held, .ref h_t_numbers, .ref h_t_sizes, .ref h_t_heldLeaves, .ref h_t_items, .ref h_t_kept, .int t_isKept])), (h_t_held, .inl (cI, 6, .inl a_t_held)), (h_t_sizes, .inl (cI, 6, .inl a_t_sizes)), (h_t_items, .inl (cI, 120, .inl a_t_items))] s.heap.size = A at hD ⊢
  have hA : ∀ q : Nat, s.heap.size ≤ q → A q := fun q h => by rw [← hAe]; exact Or.inr h
  have hS : va_S A s.heap s.heap [] := va_S.rf
  have hl := lv_entry ([.ref h_t, .int p0, .int p1, .int p2]) (n := 4) (Nat.le_of_ble_eq_true rfl)
  rw [lg_entry_eq]
  generalize (lg_sl ([.ref h_t, .int p0, .int p1, .int p2]) ++ List.replicate (4 - (lg_sl ([.ref h_t, .int p0, .int p1, .int p2])).length) Slot.unset).toArray = ls at hl ⊢
  have hl : lv_has ls 4 [(0, .ref h_t), (1, .int p0), (2, .int p1), (3, .int p2)] := hl
  have hinX9 : ∀ w ∈ wsX90, w ∈ wsX9_set := hin_of in_X9
  have h := hF
  unfold F_X9_set at h
  refine lv_iload_n hx hb dX9_set_0 rfl (lv_at hl 1 rfl) ?_
  obtain ⟨x1, hx1, h⟩ := bd_e h
  try dsimp only at h
  refine k_SiU (n := 1) (As := [.int p0]) (rest := []) hx hb hml hown hts (c_X9_isHolder l G cI cJ cD cH s.heap.size p0 x1 hx1) gX9_set_X9_isHolder rfl rfl rfl (by decide +kernel) ⟨by first | exact Nat.le_of_ble_eq_true rfl | (simp only [headSpec]; omega), by first | exact Nat.le_of_ble_eq_true rfl | (simp only [headSpec]; omega)⟩ hK hP hD hS hA [] (by decide) rfl rfl rfl hl.1 (Nat.le_of_ble_eq_true rfl) dX9_set_1 ⟨Nat.zero_le _, Nat.zero_le _⟩ (fun hp1 H locs hP hS => ?_)
  refine lv_if_ne (tgt := 9) hx hb dX9_set_4 (by decide) (fun c2 => ?_) (fun c2 => ?_)
  rotate_left
  · have h := it_p h c2
    refine lv_iconst (v := (-1 : Int32)) hx hb dX9_set_7 (by decide) ?_
    have h9 := Option.some.inj h
    have e9 : (-1 : Int32) = r0 := congrArg (fun z9 => z9.1) h9
    rw [← e9]
    have e9 : a_t_items = w0 := congrArg (fun z9 => z9.2) h9
    rw [← e9]
    exact k_iret hx hb hr hlocks hP hS rfl dX9_set_8
  have h := it_n h c2
  refine lv_aload_n hx hb dX9_set_9 rfl (lv_at hl 0 rfl) ?_
  refine lv_iload_n hx hb dX9_set_10 rfl (lv_at hl 1 rfl) ?_
  obtain ⟨x3, hx3, h⟩ := bd_e h
  try dsimp only at h
  refine k_ViU (n := 1) (As := [.int p0]) (rest := []) hx hb hml hown hts (c_X9_rowless l G cI cJ cD cH H.size h_t h_t_held h_t_powers h_t_tree h_t_ahead h_t_behind h_t_before h_t_rows h_t_met h_t_metSizes h_t_chosen h_t_tape h_t_toldPowers h_t_powerPlaces h_t_toldTree h_t_splitPlaces h_t_layers h_t_paper h_t_numbers h_t_sizes h_t_heldLeaves h_t_items h_t_kept t_genus t_marks t_leaves t_splits t_done t_undone t_metMany t_treesSeen t_taped t_place t_isWrong t_toldGenus t_toldMarks t_isTree t_toldLeaves t_leavesPlace t_toldSplits t_isWhy t_papered t_isKept a_t_held p0 x3 hx3) gX9_set_X9_rowless rfl rfl rfl (by decide +kernel) ⟨by first | exact Nat.le_of_ble_eq_true rfl | (simp only [headSpec]; omega), by first | exact Nat.le_of_ble_eq_true rfl | (simp only [headSpec]; omega)⟩ hK hP hD hS hA [0, 1] (by decide) rfl (ci := 8) rfl rfl rfl rfl rfl hl.1 (Nat.le_of_ble_eq_true rfl) dX9_set_11 ⟨Nat.zero_le _, Nat.zero_le _⟩ (fun hp3 H locs hP hS => ?_)
  refine lv_if_eq (tgt := 23) hx hb dX9_set_14 (by decide) (fun c4 => ?_) (fun c4 => ?_)
  rotate_left
  · have h := it_n h c4
    refine lv_aload_n hx hb dX9_set_17 rfl (lv_at hl 0 rfl) ?_
    refine lv_iload_n hx hb dX9_set_18 rfl (lv_at hl 1 rfl) ?_
    obtain ⟨x9, hx9, h⟩ := bd_e h
    try dsimp only at h
    refine k_ViU (n := 1) (As := [.int p0]) (rest := []) hx hb hml hown hts (c_X9_rowless l G cI cJ cD cH H.size h_t h_t_held h_t_powers h_t_tree h_t_ahead h_t_behind h_t_before h_t_rows h_t_met h_t_metSizes h_t_chosen h_t_tape h_t_toldPowers h_t_powerPlaces h_t_toldTree h_t_splitPlaces h_t_layers h_t_paper h_t_numbers h_t_sizes h_t_heldLeaves h_t_items h_t_kept t_genus t_marks t_leaves t_splits t_done t_undone t_metMany t_treesSeen t_taped t_place t_isWrong t_toldGenus t_toldMarks t_isTree t_toldLeaves t_leavesPlace t_toldSplits t_isWhy t_papered t_isKept a_t_held p0 x9 hx9) gX9_set_X9_rowless rfl rfl rfl (by decide +kernel) ⟨by first | exact Nat.le_of_ble_eq_true rfl | (simp only [headSpec]; omega), by first | exact Nat.le_of_ble_eq_true rfl | (simp only [headSpec]; omega)⟩ hK hP hD hS hA [0, 1] (by decide) rfl (ci := 8) rfl rfl rfl rfl rfl hl.1 (Nat.le_of_ble_eq_true rfl) dX9_set_19 ⟨Nat.zero_le _, Nat.zero_le _⟩ (fun hp9 H locs hP hS => ?_)
    have h9 := Option.some.inj h
    have e9 : x9 = r0 := congrArg (fun z9 => z9.1) h9
    rw [← e9]
    have e9 : a_t_items = w0 := congrArg (fun z9 => z9.2) h9
    rw [← e9]
    exact k_iret hx hb hr hlocks hP hS rfl dX9_set_22
  have h := it_p h c4
  refine lv_iload_n hx hb dX9_set_23 rfl (lv_at hl 2 rfl) ?_
  refine lv_i2l (v := p1.toInt64) hx hb dX9_set_24 (by first | rfl | decide) ?_
  refine lv_lconst (v := (0 : Int64)) hx hb dX9_set_25 (by decide) ?_
  refine lv_aload_n hx hb dX9_set_26 rfl (lv_at hl 0 rfl) ?_
  refine va_get (D := G) (ci := 8) (v := .ref h_t_sizes) (C := RX9) (T := TX9) (N := 42) hx hb hts hinX9 hown hK hP 0 rfl rfl 37 (by decide) (hta _ mw_625) (fun _ h9 => h9) rfl dX9_set_27 ?_
  refine lv_iload_n hx hb dX9_set_30 rfl (lv_at hl 1 rfl) ?_
  obtain ⟨hn5, h⟩ := ck_e h
  refine va_iald hx hb hK hP 2 0 rfl rfl hn5 dX9_set_31 ?_
  refine lv_iconst (v := (1 : Int32)) hx hb dX9_set_32 (by decide) ?_
  refine lv_isub hx hb dX9_set_33 ?_
  refine lv_i2l (v := ((a_t_sizes p0.toNatClampNeg) - (1 : Int32)).toInt64) hx hb dX9_set_34 (by first | rfl | decide) ?_
  obtain ⟨x6, hx6, h⟩ := bd_e h
  try dsimp only at h
  refine k_SiU (n := 3) (As := [.long p1.toInt64, .long (0 : Int64), .long ((a_t_sizes p0.toNatClampNeg) - (1 : Int32)).toInt64]) (rest := []) hx hb hml hown hts (c_X9_in l G cI cJ cD cH H.size p1.toInt64 (0 : Int64) ((a_t_sizes p0.toNatClampNeg) - (1 : Int32)).toInt64 x6 hx6) gX9_set_X9_in rfl rfl rfl (by decide +kernel) ⟨by first | exact Nat.le_of_ble_eq_true rfl | (simp only [headSpec]; omega), by first | exact Nat.le_of_ble_eq_true rfl | (simp only [headSpec]; omega)⟩ hK hP hD hS hA [] (by decide) rfl rfl rfl hl.1 (Nat.le_of_ble_eq_true rfl) dX9_set_35 ⟨Nat.zero_le _, Nat.zero_le _⟩ (fun hp6 H locs hP hS => ?_)
  refine lv_if_ne (tgt := 44) hx hb dX9_set_38 (by decide) (fun c7 => ?_) (fun c7 => ?_)
  rotate_left
  · have h := it_p h c7
    refine lv_bipush (v := (-13 : Int32)) hx hb dX9_set_41 (by decide) ?_
    have h9 := Option.some.inj h
    have e9 : (-13 : Int32) = r0 := congrArg (fun z9 => z9.1) h9
    rw [← e9]
    have e9 : a_t_items = w0 := congrArg (fun z9 => z9.2) h9
    rw [← e9]
    exact k_iret hx hb hr hlocks hP hS rfl dX9_set_43
  have h := it_n h c7
  refine lv_aload_n hx hb dX9_set_44 rfl (lv_at hl 0 rfl) ?_
  refine va_get (D := G) (ci := 8) (v := .ref h_t_items) (C := RX9) (T := TX9) (N := 42) hx hb hts hinX9 hown hK hP 0 rfl rfl 39 (by decide) (hta _ mw_627) (fun _ h9 => h9) rfl dX9_set_45 ?_
  refine lv_bipush (v := (20 : Int32)) hx hb dX9_set_48 (by decide) ?_
  refine lv_iload_n hx hb dX9_set_50 rfl (lv_at hl 1 rfl) ?_
  refine lv_imul hx hb dX9_set_51 ?_
  refine lv_iload_n hx hb dX9_set_52 rfl (lv_at hl 2 rfl) ?_
  refine lv_iadd hx hb dX9_set_53 ?_
  refine lv_iload_n hx hb dX9_set_54 rfl (lv_at hl 3 rfl) ?_
  obtain ⟨hn8, h⟩ := ck_e h
  refine va_iast hx hb hK hP hD hS 3 0 rfl rfl hn8 dX9_set_55 (fun H locs hP hD hS => ?_)
  have hP : va_P G vwCl [(h_t, .inr (8, [.int t_genus, .int t_marks, .ref h_t_powers, .int t_leaves, .int t_splits, .ref h_t_tree, .ref h_t_ahead, .ref h_t_behind, .ref h_t_before, .int t_done, .int t_undone, .ref h_t_rows, .ref h_t_met, .ref h_t_metSizes, .int t_metMany, .int t_treesSeen, .ref h_t_chosen, .ref h_t_tape, .int t_taped, .int t_place, .int t_isWrong, .int t_toldGenus, .int t_toldMarks, .ref h_t_toldPowers, .ref h_t_powerPlaces, .int t_isTree, .int t_toldLeaves, .int t_leavesPlace, .int t_toldSplits, .ref h_t_toldTree, .ref h_t_splitPlaces, .ref h_t_layers, .int t_isWhy, .ref h_t_paper, .int t_papered, .ref h_t_held, .ref h_t_numbers, .ref h_t_sizes, .ref h_t_heldLeaves, .ref h_t_items, .ref h_t_kept, .int t_isKept])), (h_t_held, .inl (cI, 6, .inl a_t_held)), (h_t_sizes, .inl (cI, 6, .inl a_t_sizes)), (h_t_items, .inl (cI, 120, .inl (upd a_t_items (((20 : Int32) * p0) + p1).toNatClampNeg p2)))] H := hP
  have hD : va_D A [(h_t, .inr (8, [.int t_genus, .int t_marks, .ref h_t_powers, .int t_leaves, .int t_splits, .ref h_t_tree, .ref h_t_ahead, .ref h_t_behind, .ref h_t_before, .int t_done, .int t_undone, .ref h_t_rows, .ref h_t_met, .ref h_t_metSizes, .int t_metMany, .int t_treesSeen, .ref h_t_chosen, .ref h_t_tape, .int t_taped, .int t_place, .int t_isWrong, .int t_toldGenus, .int t_toldMarks, .ref h_t_toldPowers, .ref h_t_powerPlaces, .int t_isTree, .int t_toldLeaves, .int t_leavesPlace, .int t_toldSplits, .ref h_t_toldTree, .ref h_t_splitPlaces, .ref h_t_layers, .int t_isWhy, .ref h_t_paper, .int t_papered, .ref h_t_held, .ref h_t_numbers, .ref h_t_sizes, .ref h_t_heldLeaves, .ref h_t_items, .ref h_t_kept, .int t_isKept])), (h_t_held, .inl (cI, 6, .inl a_t_held)), (h_t_sizes, .inl (cI, 6, .inl a_t_sizes)), (h_t_items, .inl (cI, 120, .inl (upd a_t_items (((20 : Int32) * p0) + p1).toNatClampNeg p2)))] := hD
  refine lv_iconst (v := (1 : Int32)) hx hb dX9_set_56 (by decide) ?_
  have h9 := Option.some.inj h
  have e9 : (1 : Int32) = r0 := congrArg (fun z9 => z9.1) h9
  rw [← e9]
  have e9 : (upd a_t_items (((20 : Int32) * p0) + p1).toNatClampNeg p2) = w0 := congrArg (fun z9 => z9.2) h9
  rw [← e9]
  exact k_iret hx hb hr hlocks hP hS rfl dX9_set_57

/-! X9_get -/
set_option maxHeartbeats 4000000 in
set_option maxRecDepth 100000 in
theorem c_X9_get (l : Launch) (G : va_G) (cI cJ cD cH : ClassId) (sz : Nat) (h_t : Nat) (h_t_held : Nat) (h_t_sizes : Nat) (h_t_items : Nat) (h_t_powers : Nat) (h_t_tree : Nat) (h_t_ahead : Nat) (h_t_behind : Nat) (h_t_before : Nat) (h_t_rows : Nat) (h_t_met : Nat) (h_t_metSizes : Nat) (h_t_chosen : Nat) (h_t_tape : Nat) (h_t_toldPowers : Nat) (h_t_powerPlaces : Nat) (h_t_toldTree : Nat) (h_t_splitPlaces : Nat) (h_t_layers : Nat) (h_t_paper : Nat) (h_t_numbers : Nat) (h_t_heldLeaves : Nat) (h_t_kept : Nat) (t_genus : Int32) (t_marks : Int32) (t_leaves : Int32) (t_splits : Int32) (t_done : Int32) (t_undone : Int32) (t_metMany : Int32) (t_treesSeen : Int32) (t_taped : Int32) (t_place : Int32) (t_isWrong : Int32) (t_toldGenus : Int32) (t_toldMarks : Int32) (t_isTree : Int32) (t_toldLeaves : Int32) (t_leavesPlace : Int32) (t_toldSplits : Int32) (t_isWhy : Int32) (t_papered : Int32) (t_isKept : Int32) (a_t_held : Nat → Int32) (a_t_sizes : Nat → Int32) (a_t_items : Nat → Int32) (p0 : Int32) (p1 : Int32) (r0 : Int64) (hF : F_X9_get a_t_held a_t_sizes a_t_items p0 p1 = some r0) : Met l yX9_get wsX9_get ({ frames := 2, cells := 0, slots := 0, locals := 45 }) (k_pre G (k_T cI cJ cD cH) [(h_t, .inr (8, [.int t_genus, .int t_marks, .ref h_t_powers, .int t_leaves, .int t_splits, .ref h_t_tree, .ref h_t_ahead, .ref h_t_behind, .ref h_t_before, .int t_done, .int t_undone, .ref h_t_rows, .ref h_t_met, .ref h_t_metSizes, .int t_metMany, .int t_treesSeen, .ref h_t_chosen, .ref h_t_tape, .int t_taped, .int t_place, .int t_isWrong, .int t_toldGenus, .int t_toldMarks, .ref h_t_toldPowers, .ref h_t_powerPlaces, .int t_isTree, .int t_toldLeaves, .int t_leavesPlace, .int t_toldSplits, .ref h_t_toldTree, .ref h_t_splitPlaces, .ref h_t_layers, .int t_isWhy, .ref h_t_paper, .int t_papered, .ref h_t_held, .ref h_t_numbers, .ref h_t_sizes, .ref h_t_heldLeaves, .ref h_t_items, .ref h_t_kept, .int t_isKept])), (h_t_held, .inl (cI, 6, .inl a_t_held)), (h_t_sizes, .inl (cI, 6, .inl a_t_sizes)), (h_t_items, .inl (cI, 120, .inl a_t_items))] sz [.ref h_t, .int p0, .int p1]) (va_Ql (fun r (_ : Unit) => r = r0 ∧ True) (fun _ t => va_P G vwCl [(h_t, .inr (8, [.int t_genus, .int t_marks, .ref h_t_powers, .int t_leaves, .int t_splits, .ref h_t_tree, .ref h_t_ahead, .ref h_t_behind, .ref h_t_before, .int t_done, .int t_undone, .ref h_t_rows, .ref h_t_met, .ref h_t_metSizes, .int t_metMany, .int t_treesSeen, .ref h_t_chosen, .ref h_t_tape, .int t_taped, .int t_place, .int t_isWrong, .int t_toldGenus, .int t_toldMarks, .ref h_t_toldPowers, .ref h_t_powerPlaces, .int t_isTree, .int t_toldLeaves, .int t_leavesPlace, .int t_toldSplits, .ref h_t_toldTree, .ref h_t_splitPlaces, .ref h_t_layers, .int t_isWhy, .ref h_t_paper, .int t_papered, .ref h_t_held, .ref h_t_numbers, .ref h_t_sizes, .ref h_t_heldLeaves, .ref h_t_items, .ref h_t_kept, .int t_isKept])), (h_t_held, .inl (cI, 6, .inl a_t_held)), (h_t_sizes, .inl (cI, 6, .inl a_t_sizes)), (h_t_items, .inl (cI, 120, .inl a_t_items))] t.heap) (va_A [(h_t, .inr (8, [.int t_genus, .int t_marks, .ref h_t_powers, .int t_leaves, .int t_splits, .ref h_t_tree, .ref h_t_ahead, .ref h_t_behind, .ref h_t_before, .int t_done, .int t_undone, .ref h_t_rows, .ref h_t_met, .ref h_t_metSizes, .int t_metMany, .int t_treesSeen, .ref h_t_chosen, .ref h_t_tape, .int t_taped, .int t_place, .int t_isWrong, .int t_toldGenus, .int t_toldMarks, .ref h_t_toldPowers, .ref h_t_powerPlaces, .int t_isTree, .int t_toldLeaves, .int t_leavesPlace, .int t_toldSplits, .ref h_t_toldTree, .ref h_t_splitPlaces, .ref h_t_layers, .int t_isWhy, .ref h_t_paper, .int t_papered, .ref h_t_held, .ref h_t_numbers, .ref h_t_sizes, .ref h_t_heldLeaves, .ref h_t_items, .ref h_t_kept, .int t_isKept])), (h_t_held, .inl (cI, 6, .inl a_t_held)), (h_t_sizes, .inl (cI, 6, .inl a_t_sizes)), (h_t_items, .inl (cI, 120, .inl a_t_items))] sz)) 0 0 (va_A [(h_t, .inr (8, [.int t_genus, .int t_marks, .ref h_t_powers, .int t_leaves, .int t_splits, .ref h_t_tree, .ref h_t_ahead, .ref h_t_behind, .ref h_t_before, .int t_done, .int t_undone, .ref h_t_rows, .ref h_t_met, .ref h_t_metSizes, .int t_metMany, .int t_treesSeen, .ref h_t_chosen, .ref h_t_tape, .int t_taped, .int t_place, .int t_isWrong, .int t_toldGenus, .int t_toldMarks, .ref h_t_toldPowers, .ref h_t_powerPlaces, .int t_isTree, .int t_toldLeaves, .int t_leavesPlace, .int t_toldSplits, .ref h_t_toldTree, .ref h_t_splitPlaces, .ref h_t_layers, .int t_isWhy, .ref h_t_paper, .int t_papered, .ref h_t_held, .ref h_t_numbers, .ref h_t_sizes, .ref h_t_heldLeaves, .ref h_t_items, .ref h_t_kept, .int t_isKept])), (h_t_held, .inl (cI, 6, .inl a_t_held)), (h_t_sizes, .inl (cI, 6, .inl a_t_sizes)), (h_t_items, .inl (cI, 120, .inl a_t_items))] sz) := by
  refine Met.ofW (cc := cX9_get) (maxL := 3) (ret := (some .long)) (by decide) rfl ?_
  intro p e s m args below meth c s₁ B hml hv
  obtain ⟨rfl, hsz, hP, hK, hD0⟩ := hv
  have hx := B.exec
  have hb := B.bytes
  have hr := B.returns
  have hts := atoms_spec (ws := wsX9_get) B.pre
  have hta : ∀ w ∈ wA, w.before ([.ref h_t, .int p0, .int p1] : List Value).toArray s = true := hta_of hts
  have hown : s.vm.findClass RX9 = some m.cls := findClass_of_methodNamed B.named
  have hlocks := B.notSynchronized
  subst hsz
  have hD := hD0.self (sz := s.heap.size)
  generalize hAe : va_A [(h_t, .inr (8, [.int t_genus, .int t_marks, .ref h_t_powers, .int t_leaves, .int t_splits, .ref h_t_tree, .ref h_t_ahead, .ref h_t_behind, .ref h_t_before, .int t_done, .int t_undone, .ref h_t_rows, .ref h_t_met, .ref h_t_metSizes, .int t_metMany, .int t_treesSeen, .ref h_t_chosen, .ref h_t_tape, .int t_taped, .int t_place, .int t_isWrong, .int t_toldGenus, .int t_toldMarks, .ref h_t_toldPowers, .ref h_t_powerPlaces, .int t_isTree, .int t_toldLeaves, .int t_leavesPlace, .int t_toldSplits, .ref h_t_toldTree, .ref h_t_splitPlaces, .ref h_t_layers, .int t_isWhy, .ref h_t_paper, .int t_papered, .ref h_t_held, .ref h_t_numbers, .ref h_t_sizes, .ref h_t_heldLeaves, .ref h_t_items, .ref h_t_kept, .int t_isKept])), (h_t_held, .inl (cI, 6, .inl a_t_held)), (h_t_sizes, .inl (cI, 6, .inl a_t_sizes)), (h_t_items, .inl (cI, 120, .inl a_t_items))] s.heap.size = A at hD ⊢
  have hA : ∀ q : Nat, s.heap.size ≤ q → A q := fun q h => by rw [← hAe]; exact Or.inr h
  have hS : va_S A s.heap s.heap [] := va_S.rf
  have hl := lv_entry ([.ref h_t, .int p0, .int p1]) (n := 3) (Nat.le_of_ble_eq_true rfl)
  rw [lg_entry_eq]
  generalize (lg_sl ([.ref h_t, .int p0, .int p1]) ++ List.replicate (3 - (lg_sl ([.ref h_t, .int p0, .int p1])).length) Slot.unset).toArray = ls at hl ⊢
  have hl : lv_has ls 3 [(0, .ref h_t), (1, .int p0), (2, .int p1)] := hl
  have hinX9 : ∀ w ∈ wsX90, w ∈ wsX9_get := hin_of in_X9
  have h := hF
  unfold F_X9_get at h
  refine lv_iload_n hx hb dX9_get_0 rfl (lv_at hl 1 rfl) ?_
  obtain ⟨x1, hx1, h⟩ := bd_e h
  try dsimp only at h
  refine k_SiU (n := 1) (As := [.int p0]) (rest := []) hx hb hml hown hts (c_X9_isHolder l G cI cJ cD cH s.heap.size p0 x1 hx1) gX9_get_X9_isHolder rfl rfl rfl (by decide +kernel) ⟨by first | exact Nat.le_of_ble_eq_true rfl | (simp only [headSpec]; omega), by first | exact Nat.le_of_ble_eq_true rfl | (simp only [headSpec]; omega)⟩ hK hP hD hS hA [] (by decide) rfl rfl rfl hl.1 (Nat.le_of_ble_eq_true rfl) dX9_get_1 ⟨Nat.zero_le _, Nat.zero_le _⟩ (fun hp1 H locs hP hS => ?_)
  refine lv_if_eq (tgt := 50) hx hb dX9_get_4 (by decide) (fun c2 => ?_) (fun c2 => ?_)
  · have h := it_p h c2
    refine lv_ldc2 (v := (-9223372036854775808 : Int64)) hx hb hown (hta _ mw_706) dX9_get_50 ?_
    have h9 := Option.some.inj h
    have e9 : (-9223372036854775808 : Int64) = r0 := congrArg (fun z9 => z9) h9
    rw [← e9]
    exact k_lret hx hb hr hlocks hP hS rfl dX9_get_53
  have h := it_n h c2
  refine lv_aload_n hx hb dX9_get_7 rfl (lv_at hl 0 rfl) ?_
  refine va_get (D := G) (ci := 8) (v := .ref h_t_held) (C := RX9) (T := TX9) (N := 42) hx hb hts hinX9 hown hK hP 0 rfl rfl 35 (by decide) (hta _ mw_623) (fun _ h9 => h9) rfl dX9_get_8 ?_
  refine lv_iload_n hx hb dX9_get_11 rfl (lv_at hl 1 rfl) ?_
  obtain ⟨hn3, h⟩ := ck_e h
  refine va_iald hx hb hK hP 1 0 rfl rfl hn3 dX9_get_12 ?_
  refine lv_iconst (v := (3 : Int32)) hx hb dX9_get_13 (by decide) ?_
  refine lv_icmp_ne (tgt := 50) hx hb dX9_get_14 (by decide) (fun c4 => ?_) (fun c4 => ?_)
  · have h := it_n h c4
    refine lv_ldc2 (v := (-9223372036854775808 : Int64)) hx hb hown (hta _ mw_706) dX9_get_50 ?_
    have h9 := Option.some.inj h
    have e9 : (-9223372036854775808 : Int64) = r0 := congrArg (fun z9 => z9) h9
    rw [← e9]
    exact k_lret hx hb hr hlocks hP hS rfl dX9_get_53
  have h := it_p h c4
  refine lv_iload_n hx hb dX9_get_17 rfl (lv_at hl 2 rfl) ?_
  refine lv_i2l (v := p1.toInt64) hx hb dX9_get_18 (by first | rfl | decide) ?_
  refine lv_lconst (v := (0 : Int64)) hx hb dX9_get_19 (by decide) ?_
  refine lv_aload_n hx hb dX9_get_20 rfl (lv_at hl 0 rfl) ?_
  refine va_get (D := G) (ci := 8) (v := .ref h_t_sizes) (C := RX9) (T := TX9) (N := 42) hx hb hts hinX9 hown hK hP 0 rfl rfl 37 (by decide) (hta _ mw_625) (fun _ h9 => h9) rfl dX9_get_21 ?_
  refine lv_iload_n hx hb dX9_get_24 rfl (lv_at hl 1 rfl) ?_
  obtain ⟨hn5, h⟩ := ck_e h
  refine va_iald hx hb hK hP 2 0 rfl rfl hn5 dX9_get_25 ?_
  refine lv_iconst (v := (1 : Int32)) hx hb dX9_get_26 (by decide) ?_
  refine lv_isub hx hb dX9_get_27 ?_
  refine lv_i2l (v := ((a_t_sizes p0.toNatClampNeg) - (1 : Int32)).toInt64) hx hb dX9_get_28 (by first | rfl | decide) ?_
  obtain ⟨x6, hx6, h⟩ := bd_e h
  try dsimp only at h
  refine k_SiU (n := 3) (As := [.long p1.toInt64, .long (0 : Int64), .long ((a_t_sizes p0.toNatClampNeg) - (1 : Int32)).toInt64]) (rest := []) hx hb hml hown hts (c_X9_in l G cI cJ cD cH H.size p1.toInt64 (0 : Int64) ((a_t_sizes p0.toNatClampNeg) - (1 : Int32)).toInt64 x6 hx6) gX9_get_X9_in rfl rfl rfl (by decide +kernel) ⟨by first | exact Nat.le_of_ble_eq_true rfl | (simp only [headSpec]; omega), by first | exact Nat.le_of_ble_eq_true rfl | (simp only [headSpec]; omega)⟩ hK hP hD hS hA [] (by decide) rfl rfl rfl hl.1 (Nat.le_of_ble_eq_true rfl) dX9_get_29 ⟨Nat.zero_le _, Nat.zero_le _⟩ (fun hp6 H locs hP hS => ?_)
  refine lv_if_eq (tgt := 50) hx hb dX9_get_32 (by decide) (fun c7 => ?_) (fun c7 => ?_)
  · have h := it_p h c7
    refine lv_ldc2 (v := (-9223372036854775808 : Int64)) hx hb hown (hta _ mw_706) dX9_get_50 ?_
    have h9 := Option.some.inj h
    have e9 : (-9223372036854775808 : Int64) = r0 := congrArg (fun z9 => z9) h9
    rw [← e9]
    exact k_lret hx hb hr hlocks hP hS rfl dX9_get_53
  have h := it_n h c7
  refine lv_aload_n hx hb dX9_get_35 rfl (lv_at hl 0 rfl) ?_
  refine va_get (D := G) (ci := 8) (v := .ref h_t_items) (C := RX9) (T := TX9) (N := 42) hx hb hts hinX9 hown hK hP 0 rfl rfl 39 (by decide) (hta _ mw_627) (fun _ h9 => h9) rfl dX9_get_36 ?_
  refine lv_bipush (v := (20 : Int32)) hx hb dX9_get_39 (by decide) ?_
  refine lv_iload_n hx hb dX9_get_41 rfl (lv_at hl 1 rfl) ?_
  refine lv_imul hx hb dX9_get_42 ?_
  refine lv_iload_n hx hb dX9_get_43 rfl (lv_at hl 2 rfl) ?_
  refine lv_iadd hx hb dX9_get_44 ?_
  obtain ⟨hn8, h⟩ := ck_e h
  refine va_iald hx hb hK hP 3 0 rfl rfl hn8 dX9_get_45 ?_
  refine lv_i2l (v := (a_t_items (((20 : Int32) * p0) + p1).toNatClampNeg).toInt64) hx hb dX9_get_46 (by first | rfl | decide) ?_
  refine lv_goto (tgt := 53) hx hb dX9_get_47 (by decide) ?_
  have h9 := Option.some.inj h
  have e9 : (a_t_items (((20 : Int32) * p0) + p1).toNatClampNeg).toInt64 = r0 := congrArg (fun z9 => z9) h9
  rw [← e9]
  exact k_lret hx hb hr hlocks hP hS rfl dX9_get_53

/-! X9_judge -/
set_option maxHeartbeats 4000000 in
set_option maxRecDepth 100000 in
theorem c_X9_judge (l : Launch) (G : va_G) (cI cJ cD cH : ClassId) (sz : Nat) (h_t : Nat) (h_t_held : Nat) (h_t_sizes : Nat) (h_t_items : Nat) (h_t_tree : Nat) (h_t_powers : Nat) (h_t_ahead : Nat) (h_t_behind : Nat) (h_t_before : Nat) (h_t_rows : Nat) (h_t_met : Nat) (h_t_metSizes : Nat) (h_t_chosen : Nat) (h_t_tape : Nat) (h_t_toldPowers : Nat) (h_t_powerPlaces : Nat) (h_t_toldTree : Nat) (h_t_splitPlaces : Nat) (h_t_layers : Nat) (h_t_paper : Nat) (h_t_numbers : Nat) (h_t_heldLeaves : Nat) (h_t_kept : Nat) (t_genus : Int32) (t_marks : Int32) (t_leaves : Int32) (t_splits : Int32) (t_done : Int32) (t_undone : Int32) (t_metMany : Int32) (t_treesSeen : Int32) (t_taped : Int32) (t_place : Int32) (t_isWrong : Int32) (t_toldGenus : Int32) (t_toldMarks : Int32) (t_isTree : Int32) (t_toldLeaves : Int32) (t_leavesPlace : Int32) (t_toldSplits : Int32) (t_isWhy : Int32) (t_papered : Int32) (t_isKept : Int32) (a_t_held : Nat → Int32) (a_t_sizes : Nat → Int32) (a_t_items : Nat → Int32) (a_t_tree : Nat → Int32) (p0 : Int32) (r0 : Int32) (hF : F_X9_judge t_splits a_t_held a_t_sizes a_t_items a_t_tree p0 = some r0) : Met l yX9_judge wsX9_judge ({ frames := 2, cells := 0, slots := 0, locals := 45 }) (k_pre G (k_T cI cJ cD cH) [(h_t, .inr (8, [.int t_genus, .int t_marks, .ref h_t_powers, .int t_leaves, .int t_splits, .ref h_t_tree, .ref h_t_ahead, .ref h_t_behind, .ref h_t_before, .int t_done, .int t_undone, .ref h_t_rows, .ref h_t_met, .ref h_t_metSizes, .int t_metMany, .int t_treesSeen, .ref h_t_chosen, .ref h_t_tape, .int t_taped, .int t_place, .int t_isWrong, .int t_toldGenus, .int t_toldMarks, .ref h_t_toldPowers, .ref h_t_powerPlaces, .int t_isTree, .int t_toldLeaves, .int t_leavesPlace, .int t_toldSplits, .ref h_t_toldTree, .ref h_t_splitPlaces, .ref h_t_layers, .int t_isWhy, .ref h_t_paper, .int t_papered, .ref h_t_held, .ref h_t_numbers, .ref h_t_sizes, .ref h_t_heldLeaves, .ref h_t_items, .ref h_t_kept, .int t_isKept])), (h_t_held, .inl (cI, 6, .inl a_t_held)), (h_t_sizes, .inl (cI, 6, .inl a_t_sizes)), (h_t_items, .inl (cI, 120, .inl a_t_items)), (h_t_tree, .inl (cI, 3, .inl a_t_tree))] sz [.ref h_t, .int p0]) (va_Qi (fun r (_ : Unit) => r = r0 ∧ True) (fun _ t => va_P G vwCl [(h_t, .inr (8, [.int t_genus, .int t_marks, .ref h_t_powers, .int t_leaves, .int t_splits, .ref h_t_tree, .ref h_t_ahead, .ref h_t_behind, .ref h_t_before, .int t_done, .int t_undone, .ref h_t_rows, .ref h_t_met, .ref h_t_metSizes, .int t_metMany, .int t_treesSeen, .ref h_t_chosen, .ref h_t_tape, .int t_taped, .int t_place, .int t_isWrong, .int t_toldGenus, .int t_toldMarks, .ref h_t_toldPowers, .ref h_t_powerPlaces, .int t_isTree, .int t_toldLeaves, .int t_leavesPlace, .int t_toldSplits, .ref h_t_toldTree, .ref h_t_splitPlaces, .ref h_t_layers, .int t_isWhy, .ref h_t_paper, .int t_papered, .ref h_t_held, .ref h_t_numbers, .ref h_t_sizes, .ref h_t_heldLeaves, .ref h_t_items, .ref h_t_kept, .int t_isKept])), (h_t_held, .inl (cI, 6, .inl a_t_held)), (h_t_sizes, .inl (cI, 6, .inl a_t_sizes)), (h_t_items, .inl (cI, 120, .inl a_t_items)), (h_t_tree, .inl (cI, 3, .inl a_t_tree))] t.heap) (va_A [(h_t, .inr (8, [.int t_genus, .int t_marks, .ref h_t_powers, .int t_leaves, .int t_splits, .ref h_t_tree, .ref h_t_ahead, .ref h_t_behind, .ref h_t_before, .int t_done, .int t_undone, .ref h_t_rows, .ref h_t_met, .ref h_t_metSizes, .int t_metMany, .int t_treesSeen, .ref h_t_chosen, .ref h_t_tape, .int t_taped, .int t_place, .int t_isWrong, .int t_toldGenus, .int t_toldMarks, .ref h_t_toldPowers, .ref h_t_powerPlaces, .int t_isTree, .int t_toldLeaves, .int t_leavesPlace, .int t_toldSplits, .ref h_t_toldTree, .ref h_t_splitPlaces, .ref h_t_layers, .int t_isWhy, .ref h_t_paper, .int t_papered, .ref h_t_held, .ref h_t_numbers, .ref h_t_sizes, .ref h_t_heldLeaves, .ref h_t_items, .ref h_t_kept, .int t_isKept])), (h_t_held, .inl (cI, 6, .inl a_t_held)), (h_t_sizes, .inl (cI, 6, .inl a_t_sizes)), (h_t_items, .inl (cI, 120, .inl a_t_items)), (h_t_tree, .inl (cI, 3, .inl a_t_tree))] sz)) 0 0 (va_A [(h_t, .inr (8, [.int t_genus, .int t_marks, .ref h_t_powers, .int t_leaves, .int t_splits, .ref h_t_tree, .ref h_t_ahead, .ref h_t_behind, .ref h_t_before, .int t_done, .int t_undone, .ref h_t_rows, .ref h_t_met, .ref h_t_metSizes, .int t_metMany, .int t_treesSeen, .ref h_t_chosen, .ref h_t_tape, .int t_taped, .int t_place, .int t_isWrong, .int t_toldGenus, .int t_toldMarks, .ref h_t_toldPowers, .ref h_t_powerPlaces, .int t_isTree, .int t_toldLeaves, .int t_leavesPlace, .int t_toldSplits, .ref h_t_toldTree, .ref h_t_splitPlaces, .ref h_t_layers, .int t_isWhy, .ref h_t_paper, .int t_papered, .ref h_t_held, .ref h_t_numbers, .ref h_t_sizes, .ref h_t_heldLeaves, .ref h_t_items, .ref h_t_kept, .int t_isKept])), (h_t_held, .inl (cI, 6, .inl a_t_held)), (h_t_sizes, .inl (cI, 6, .inl a_t_sizes)), (h_t_items, .inl (cI, 120, .inl a_t_items)), (h_t_tree, .inl (cI, 3, .inl a_t_tree))] sz) := by
  refine Met.ofW (cc := cX9_judge) (maxL := 3) (ret := (some .int)) (by decide) rfl ?_
  intro p e s m args below meth c s₁ B hml hv
  obtain ⟨rfl, hsz, hP, hK, hD0⟩ := hv
  have hx := B.exec
  have hb := B.bytes
  have hr := B.returns
  have hts := atoms_spec (ws := wsX9_judge) B.pre
  have hta : ∀ w ∈ wA, w.before ([.ref h_t, .int p0] : List Value).toArray s = true := hta_of hts
  have hown : s.vm.findClass RX9 = some m.cls := findClass_of_methodNamed B.named
  have hlocks := B.notSynchronized
  subst hsz
  have hD := hD0.self (sz := s.heap.size)
  generalize hAe : va_A [(h_t, .inr (8, [.int t_genus, .int t_marks, .ref h_t_powers, .int t_leaves, .int t_splits, .ref h_t_tree, .ref h_t_ahead, .ref h_t_behind, .ref h_t_before, .int t_done, .int t_undone, .ref h_t_rows, .ref h_t_met, .ref h_t_metSizes, .int t_metMany, .int t_treesSeen, .ref h_t_chosen, .ref h_t_tape, .int t_taped, .int t_place, .int t_isWrong, .int t_toldGenus, .int t_toldMarks, .ref h_t_toldPowers, .ref h_t_powerPlaces, .int t_isTree, .int t_toldLeaves, .int t_leavesPlace, .int t_toldSplits, .ref h_t_toldTree, .ref h_t_splitPlaces, .ref h_t_layers, .int t_isWhy, .ref h_t_paper, .int t_papered, .ref h_t_held, .ref h_t_numbers, .ref h_t_sizes, .ref h_t_heldLeaves, .ref h_t_items, .ref h_t_kept, .int t_isKept])), (h_t_held, .inl (cI, 6, .inl a_t_held)), (h_t_sizes, .inl (cI, 6, .inl a_t_sizes)), (h_t_items, .inl (cI, 120, .inl a_t_items)), (h_t_tree, .inl (cI, 3, .inl a_t_tree))] s.heap.size = A at hD ⊢
  have hA : ∀ q : Nat, s.heap.size ≤ q → A q := fun q h => by rw [← hAe]; exact Or.inr h
  have hS : va_S A s.heap s.heap [] := va_S.rf
  have hl := lv_entry ([.ref h_t, .int p0]) (n := 3) (Nat.le_of_ble_eq_true rfl)
  rw [lg_entry_eq]
  generalize (lg_sl ([.ref h_t, .int p0]) ++ List.replicate (3 - (lg_sl ([.ref h_t, .int p0])).length) Slot.unset).toArray = ls at hl ⊢
  have hl : lv_has ls 3 [(0, .ref h_t), (1, .int p0)] := hl
  have hinX9 : ∀ w ∈ wsX90, w ∈ wsX9_judge := hin_of in_X9
  have h := hF
  unfold F_X9_judge at h
  refine lv_iload_n hx hb dX9_judge_0 rfl (lv_at hl 1 rfl) ?_
  obtain ⟨x1, hx1, h⟩ := bd_e h
  try dsimp only at h
  refine k_SiU (n := 1) (As := [.int p0]) (rest := []) hx hb hml hown hts (c_X9_isHolder l G cI cJ cD cH s.heap.size p0 x1 hx1) gX9_judge_X9_isHolder rfl rfl rfl (by decide +kernel) ⟨by first | exact Nat.le_of_ble_eq_true rfl | (simp only [headSpec]; omega), by first | exact Nat.le_of_ble_eq_true rfl | (simp only [headSpec]; omega)⟩ hK hP hD hS hA [] (by decide) rfl rfl rfl hl.1 (Nat.le_of_ble_eq_true rfl) dX9_judge_1 ⟨Nat.zero_le _, Nat.zero_le _⟩ (fun hp1 H locs hP hS => ?_)
  refine lv_if_ne (tgt := 9) hx hb dX9_judge_4 (by decide) (fun c2 => ?_) (fun c2 => ?_)
  rotate_left
  · have h := it_p h c2
    refine lv_iconst (v := (-1 : Int32)) hx hb dX9_judge_7 (by decide) ?_
    have h9 := Option.some.inj h
    have e9 : (-1 : Int32) = r0 := congrArg (fun z9 => z9) h9
    rw [← e9]
    exact k_iret hx hb hr hlocks hP hS rfl dX9_judge_8
  have h := it_n h c2
  refine lv_aload_n hx hb dX9_judge_9 rfl (lv_at hl 0 rfl) ?_
  refine lv_iload_n hx hb dX9_judge_10 rfl (lv_at hl 1 rfl) ?_
  obtain ⟨x3, hx3, h⟩ := bd_e h
  try dsimp only at h
  refine k_ViU (n := 1) (As := [.int p0]) (rest := []) hx hb hml hown hts (c_X9_rowless l G cI cJ cD cH H.size h_t h_t_held h_t_powers h_t_tree h_t_ahead h_t_behind h_t_before h_t_rows h_t_met h_t_metSizes h_t_chosen h_t_tape h_t_toldPowers h_t_powerPlaces h_t_toldTree h_t_splitPlaces h_t_layers h_t_paper h_t_numbers h_t_sizes h_t_heldLeaves h_t_items h_t_kept t_genus t_marks t_leaves t_splits t_done t_undone t_metMany t_treesSeen t_taped t_place t_isWrong t_toldGenus t_toldMarks t_isTree t_toldLeaves t_leavesPlace t_toldSplits t_isWhy t_papered t_isKept a_t_held p0 x3 hx3) gX9_judge_X9_rowless rfl rfl rfl (by decide +kernel) ⟨by first | exact Nat.le_of_ble_eq_true rfl | (simp only [headSpec]; omega), by first | exact Nat.le_of_ble_eq_true rfl | (simp only [headSpec]; omega)⟩ hK hP hD hS hA [0, 1] (by decide) rfl (ci := 8) rfl rfl rfl rfl rfl hl.1 (Nat.le_of_ble_eq_true rfl) dX9_judge_11 ⟨Nat.zero_le _, Nat.zero_le _⟩ (fun hp3 H locs hP hS => ?_)
  refine lv_if_eq (tgt := 23) hx hb dX9_judge_14 (by decide) (fun c4 => ?_) (fun c4 => ?_)
  rotate_left
  · have h := it_n h c4
    refine lv_aload_n hx hb dX9_judge_17 rfl (lv_at hl 0 rfl) ?_
    refine lv_iload_n hx hb dX9_judge_18 rfl (lv_at hl 1 rfl) ?_
    obtain ⟨x14, hx14, h⟩ := bd_e h
    try dsimp only at h
    refine k_ViU (n := 1) (As := [.int p0]) (rest := []) hx hb hml hown hts (c_X9_rowless l G cI cJ cD cH H.size h_t h_t_held h_t_powers h_t_tree h_t_ahead h_t_behind h_t_before h_t_rows h_t_met h_t_metSizes h_t_chosen h_t_tape h_t_toldPowers h_t_powerPlaces h_t_toldTree h_t_splitPlaces h_t_layers h_t_paper h_t_numbers h_t_sizes h_t_heldLeaves h_t_items h_t_kept t_genus t_marks t_leaves t_splits t_done t_undone t_metMany t_treesSeen t_taped t_place t_isWrong t_toldGenus t_toldMarks t_isTree t_toldLeaves t_leavesPlace t_toldSplits t_isWhy t_papered t_isKept a_t_held p0 x14 hx14) gX9_judge_X9_rowless rfl rfl rfl (by decide +kernel) ⟨by first | exact Nat.le_of_ble_eq_true rfl | (simp only [headSpec]; omega), by first | exact Nat.le_of_ble_eq_true rfl | (simp only [headSpec]; omega)⟩ hK hP hD hS hA [0, 1] (by decide) rfl (ci := 8) rfl rfl rfl rfl rfl hl.1 (Nat.le_of_ble_eq_true rfl) dX9_judge_19 ⟨Nat.zero_le _, Nat.zero_le _⟩ (fun hp14 H locs hP hS => ?_)
    have h9 := Option.some.inj h
    have e9 : x14 = r0 := congrArg (fun z9 => z9) h9
    rw [← e9]
    exact k_iret hx hb hr hlocks hP hS rfl dX9_judge_22
  have h := it_p h c4
  refine lv_iconst (v := (0 : Int32)) hx hb dX9_judge_23 (by decide) ?_
  refine lv_istore_n (lv' := [(2, .int (0 : Int32)), (0, .ref h_t), (1, .int p0)]) hx hb dX9_judge_24 rfl hl (by decide) rfl (fun ls hl => ?_)
  have hK_X9_judge_25_89 : ∀ (H : Heap) (locs : List Loc) (ls : Array Slot), va_P G vwCl [(h_t, .inr (8, [.int t_genus, .int t_marks, .ref h_t_powers, .int t_leaves, .int t_splits, .ref h_t_tree, .ref h_t_ahead, .ref h_t_behind, .ref h_t_before, .int t_done, .int t_undone, .ref h_t_rows, .ref h_t_met, .ref h_t_metSizes, .int t_metMany, .int t_treesSeen, .ref h_t_chosen, .ref h_t_tape, .int t_taped, .int t_place, .int t_isWrong, .int t_toldGenus, .int t_toldMarks, .ref h_t_toldPowers, .ref h_t_powerPlaces, .int t_isTree, .int t_toldLeaves, .int t_leavesPlace, .int t_toldSplits, .ref h_t_toldTree, .ref h_t_splitPlaces, .ref h_t_layers, .int t_isWhy, .ref h_t_paper, .int t_papered, .ref h_t_held, .ref h_t_numbers, .ref h_t_sizes, .ref h_t_heldLeaves, .ref h_t_items, .ref h_t_kept, .int t_isKept])), (h_t_held, .inl (cI, 6, .inl a_t_held)), (h_t_sizes, .inl (cI, 6, .inl a_t_sizes)), (h_t_items, .inl (cI, 120, .inl a_t_items)), (h_t_tree, .inl (cI, 3, .inl a_t_tree))] H → va_D A [(h_t, .inr (8, [.int t_genus, .int t_marks, .ref h_t_powers, .int t_leaves, .int t_splits, .ref h_t_tree, .ref h_t_ahead, .ref h_t_behind, .ref h_t_before, .int t_done, .int t_undone, .ref h_t_rows, .ref h_t_met, .ref h_t_metSizes, .int t_metMany, .int t_treesSeen, .ref h_t_chosen, .ref h_t_tape, .int t_taped, .int t_place, .int t_isWrong, .int t_toldGenus, .int t_toldMarks, .ref h_t_toldPowers, .ref h_t_powerPlaces, .int t_isTree, .int t_toldLeaves, .int t_leavesPlace, .int t_toldSplits, .ref h_t_toldTree, .ref h_t_splitPlaces, .ref h_t_layers, .int t_isWhy, .ref h_t_paper, .int t_papered, .ref h_t_held, .ref h_t_numbers, .ref h_t_sizes, .ref h_t_heldLeaves, .ref h_t_items, .ref h_t_kept, .int t_isKept])), (h_t_held, .inl (cI, 6, .inl a_t_held)), (h_t_sizes, .inl (cI, 6, .inl a_t_sizes)), (h_t_items, .inl (cI, 120, .inl a_t_items)), (h_t_tree, .inl (cI, 3, .inl a_t_tree))] → va_S A s.heap H locs → lv_has ls 3 [] → K_X9_judge_25_89 = some r0 → W p l e (headSpec wsX9_judge ({ frames := 2, cells := 0, slots := 0, locals := 45 })).room s m ([.ref h_t, .int p0] : List Value).toArray below meth c H locs 0 0 (MQ below (va_Qi (fun r (_ : Unit) => r = r0 ∧ True) (fun _ t => va_P G vwCl [(h_t, .inr (8, [.int t_genus, .int t_marks, .ref h_t_powers, .int t_leaves, .int t_splits, .ref h_t_tree, .ref h_t_ahead, .ref h_t_behind, .ref h_t_before, .int t_done, .int t_undone, .ref h_t_rows, .ref h_t_met, .ref h_t_metSizes, .int t_metMany, .int t_treesSeen, .ref h_t_chosen, .ref h_t_tape, .int t_taped, .int t_place, .int t_isWrong, .int t_toldGenus, .int t_toldMarks, .ref h_t_toldPowers, .ref h_t_powerPlaces, .int t_isTree, .int t_toldLeaves, .int t_leavesPlace, .int t_toldSplits, .ref h_t_toldTree, .ref h_t_splitPlaces, .ref h_t_layers, .int t_isWhy, .ref h_t_paper, .int t_papered, .ref h_t_held, .ref h_t_numbers, .ref h_t_sizes, .ref h_t_heldLeaves, .ref h_t_items, .ref h_t_kept, .int t_isKept])), (h_t_held, .inl (cI, 6, .inl a_t_held)), (h_t_sizes, .inl (cI, 6, .inl a_t_sizes)), (h_t_items, .inl (cI, 120, .inl a_t_items)), (h_t_tree, .inl (cI, 3, .inl a_t_tree))] t.heap) A) ([.ref h_t, .int p0] : List Value).toArray s 0 0 A) (F0 m 89 ls []) := by
    intro  H locs ls hP hD hS hl h
    unfold K_X9_judge_25_89 at h
    refine lv_bipush (v := (-2 : Int32)) hx hb dX9_judge_89 (by decide) ?_
    have h9 := Option.some.inj h
    have e9 : (-2 : Int32) = r0 := congrArg (fun z9 => z9) h9
    rw [← e9]
    exact k_iret hx hb hr hlocks hP hS rfl dX9_judge_91
  have hL25 : ∀ (n25 : Nat) (vL25_0 : Int32) (H : Heap) (locs : List Loc) (ls : Array Slot), va_P G vwCl [(h_t, .inr (8, [.int t_genus, .int t_marks, .ref h_t_powers, .int t_leaves, .int t_splits, .ref h_t_tree, .ref h_t_ahead, .ref h_t_behind, .ref h_t_before, .int t_done, .int t_undone, .ref h_t_rows, .ref h_t_met, .ref h_t_metSizes, .int t_metMany, .int t_treesSeen, .ref h_t_chosen, .ref h_t_tape, .int t_taped, .int t_place, .int t_isWrong, .int t_toldGenus, .int t_toldMarks, .ref h_t_toldPowers, .ref h_t_powerPlaces, .int t_isTree, .int t_toldLeaves, .int t_leavesPlace, .int t_toldSplits, .ref h_t_toldTree, .ref h_t_splitPlaces, .ref h_t_layers, .int t_isWhy, .ref h_t_paper, .int t_papered, .ref h_t_held, .ref h_t_numbers, .ref h_t_sizes, .ref h_t_heldLeaves, .ref h_t_items, .ref h_t_kept, .int t_isKept])), (h_t_held, .inl (cI, 6, .inl a_t_held)), (h_t_sizes, .inl (cI, 6, .inl a_t_sizes)), (h_t_items, .inl (cI, 120, .inl a_t_items)), (h_t_tree, .inl (cI, 3, .inl a_t_tree))] H → va_D A [(h_t, .inr (8, [.int t_genus, .int t_marks, .ref h_t_powers, .int t_leaves, .int t_splits, .ref h_t_tree, .ref h_t_ahead, .ref h_t_behind, .ref h_t_before, .int t_done, .int t_undone, .ref h_t_rows, .ref h_t_met, .ref h_t_metSizes, .int t_metMany, .int t_treesSeen, .ref h_t_chosen, .ref h_t_tape, .int t_taped, .int t_place, .int t_isWrong, .int t_toldGenus, .int t_toldMarks, .ref h_t_toldPowers, .ref h_t_powerPlaces, .int t_isTree, .int t_toldLeaves, .int t_leavesPlace, .int t_toldSplits, .ref h_t_toldTree, .ref h_t_splitPlaces, .ref h_t_layers, .int t_isWhy, .ref h_t_paper, .int t_papered, .ref h_t_held, .ref h_t_numbers, .ref h_t_sizes, .ref h_t_heldLeaves, .ref h_t_items, .ref h_t_kept, .int t_isKept])), (h_t_held, .inl (cI, 6, .inl a_t_held)), (h_t_sizes, .inl (cI, 6, .inl a_t_sizes)), (h_t_items, .inl (cI, 120, .inl a_t_items)), (h_t_tree, .inl (cI, 3, .inl a_t_tree))] → va_S A s.heap H locs → lv_has ls 3 [(0, .ref h_t), (1, .int p0), (2, .int vL25_0)] → wq1 (B_X9_judge_25 t_splits a_t_sizes a_t_items a_t_tree p0 K_X9_judge_25_89) n25 vL25_0 = some r0 → W p l e (headSpec wsX9_judge ({ frames := 2, cells := 0, slots := 0, locals := 45 })).room s m ([.ref h_t, .int p0] : List Value).toArray below meth c H locs 0 0 (MQ below (va_Qi (fun r (_ : Unit) => r = r0 ∧ True) (fun _ t => va_P G vwCl [(h_t, .inr (8, [.int t_genus, .int t_marks, .ref h_t_powers, .int t_leaves, .int t_splits, .ref h_t_tree, .ref h_t_ahead, .ref h_t_behind, .ref h_t_before, .int t_done, .int t_undone, .ref h_t_rows, .ref h_t_met, .ref h_t_metSizes, .int t_metMany, .int t_treesSeen, .ref h_t_chosen, .ref h_t_tape, .int t_taped, .int t_place, .int t_isWrong, .int t_toldGenus, .int t_toldMarks, .ref h_t_toldPowers, .ref h_t_powerPlaces, .int t_isTree, .int t_toldLeaves, .int t_leavesPlace, .int t_toldSplits, .ref h_t_toldTree, .ref h_t_splitPlaces, .ref h_t_layers, .int t_isWhy, .ref h_t_paper, .int t_papered, .ref h_t_held, .ref h_t_numbers, .ref h_t_sizes, .ref h_t_heldLeaves, .ref h_t_items, .ref h_t_kept, .int t_isKept])), (h_t_held, .inl (cI, 6, .inl a_t_held)), (h_t_sizes, .inl (cI, 6, .inl a_t_sizes)), (h_t_items, .inl (cI, 120, .inl a_t_items)), (h_t_tree, .inl (cI, 3, .inl a_t_tree))] t.heap) A) ([.ref h_t, .int p0] : List Value).toArray s 0 0 A) (F0 m 25 ls []) := by
    intro n25
    induction n25 with
    | zero => intro vL25_0 H locs ls hP hD hS hl h; exact wq1_0 h
    | succ n25 ih25 =>
      intro vL25_0 H locs ls hP hD hS hl h
      have h := wq1_s h
      unfold B_X9_judge_25 at h
      refine lv_iload_n hx hb dX9_judge_25 rfl (lv_at hl 2 rfl) ?_
      refine lv_aload_n hx hb dX9_judge_26 rfl (lv_at hl 0 rfl) ?_
      refine va_get (D := G) (ci := 8) (v := .ref h_t_sizes) (C := RX9) (T := TX9) (N := 42) hx hb hts hinX9 hown hK hP 0 rfl rfl 37 (by decide) (hta _ mw_625) (fun _ h9 => h9) rfl dX9_judge_27 ?_
      refine lv_iload_n hx hb dX9_judge_30 rfl (lv_at hl 1 rfl) ?_
      obtain ⟨hn5, h⟩ := ck_e h
      refine va_iald hx hb hK hP 2 0 rfl rfl hn5 dX9_judge_31 ?_
      have hJ_X9_judge_43 : ∀ (H : Heap) (locs : List Loc) (ls : Array Slot), va_P G vwCl [(h_t, .inr (8, [.int t_genus, .int t_marks, .ref h_t_powers, .int t_leaves, .int t_splits, .ref h_t_tree, .ref h_t_ahead, .ref h_t_behind, .ref h_t_before, .int t_done, .int t_undone, .ref h_t_rows, .ref h_t_met, .ref h_t_metSizes, .int t_metMany, .int t_treesSeen, .ref h_t_chosen, .ref h_t_tape, .int t_taped, .int t_place, .int t_isWrong, .int t_toldGenus, .int t_toldMarks, .ref h_t_toldPowers, .ref h_t_powerPlaces, .int t_isTree, .int t_toldLeaves, .int t_leavesPlace, .int t_toldSplits, .ref h_t_toldTree, .ref h_t_splitPlaces, .ref h_t_layers, .int t_isWhy, .ref h_t_paper, .int t_papered, .ref h_t_held, .ref h_t_numbers, .ref h_t_sizes, .ref h_t_heldLeaves, .ref h_t_items, .ref h_t_kept, .int t_isKept])), (h_t_held, .inl (cI, 6, .inl a_t_held)), (h_t_sizes, .inl (cI, 6, .inl a_t_sizes)), (h_t_items, .inl (cI, 120, .inl a_t_items)), (h_t_tree, .inl (cI, 3, .inl a_t_tree))] H → va_D A [(h_t, .inr (8, [.int t_genus, .int t_marks, .ref h_t_powers, .int t_leaves, .int t_splits, .ref h_t_tree, .ref h_t_ahead, .ref h_t_behind, .ref h_t_before, .int t_done, .int t_undone, .ref h_t_rows, .ref h_t_met, .ref h_t_metSizes, .int t_metMany, .int t_treesSeen, .ref h_t_chosen, .ref h_t_tape, .int t_taped, .int t_place, .int t_isWrong, .int t_toldGenus, .int t_toldMarks, .ref h_t_toldPowers, .ref h_t_powerPlaces, .int t_isTree, .int t_toldLeaves, .int t_leavesPlace, .int t_toldSplits, .ref h_t_toldTree, .ref h_t_splitPlaces, .ref h_t_layers, .int t_isWhy, .ref h_t_paper, .int t_papered, .ref h_t_held, .ref h_t_numbers, .ref h_t_sizes, .ref h_t_heldLeaves, .ref h_t_items, .ref h_t_kept, .int t_isKept])), (h_t_held, .inl (cI, 6, .inl a_t_held)), (h_t_sizes, .inl (cI, 6, .inl a_t_sizes)), (h_t_items, .inl (cI, 120, .inl a_t_items)), (h_t_tree, .inl (cI, 3, .inl a_t_tree))] → va_S A s.heap H locs → lv_has ls 3 [(0, .ref h_t), (1, .int p0), (2, .int vL25_0)] → J_X9_judge_43 t_splits a_t_sizes a_t_items a_t_tree p0 vL25_0 (wq1 (B_X9_judge_25 t_splits a_t_sizes a_t_items a_t_tree p0 K_X9_judge_25_89) n25) = some r0 → W p l e (headSpec wsX9_judge ({ frames := 2, cells := 0, slots := 0, locals := 45 })).room s m ([.ref h_t, .int p0] : List Value).toArray below meth c H locs 0 0 (MQ below (va_Qi (fun r (_ : Unit) => r = r0 ∧ True) (fun _ t => va_P G vwCl [(h_t, .inr (8, [.int t_genus, .int t_marks, .ref h_t_powers, .int t_leaves, .int t_splits, .ref h_t_tree, .ref h_t_ahead, .ref h_t_behind, .ref h_t_before, .int t_done, .int t_undone, .ref h_t_rows, .ref h_t_met, .ref h_t_metSizes, .int t_metMany, .int t_treesSeen, .ref h_t_chosen, .ref h_t_tape, .int t_taped, .int t_place, .int t_isWrong, .int t_toldGenus, .int t_toldMarks, .ref h_t_toldPowers, .ref h_t_powerPlaces, .int t_isTree, .int t_toldLeaves, .int t_leavesPlace, .int t_toldSplits, .ref h_t_toldTree, .ref h_t_splitPlaces, .ref h_t_layers, .int t_isWhy, .ref h_t_paper, .int t_papered, .ref h_t_held, .ref h_t_numbers, .ref h_t_sizes, .ref h_t_heldLeaves, .ref h_t_items, .ref h_t_kept, .int t_isKept])), (h_t_held, .inl (cI, 6, .inl a_t_held)), (h_t_sizes, .inl (cI, 6, .inl a_t_sizes)), (h_t_items, .inl (cI, 120, .inl a_t_items)), (h_t_tree, .inl (cI, 3, .inl a_t_tree))] t.heap) A) ([.ref h_t, .int p0] : List Value).toArray s 0 0 A) (F0 m 43 ls []) := by
        intro  H locs ls hP hD hS hl h
        unfold J_X9_judge_43 at h
        refine lv_iload_n hx hb dX9_judge_43 rfl (lv_at hl 2 rfl) ?_
        refine lv_aload_n hx hb dX9_judge_44 rfl (lv_at hl 0 rfl) ?_
        refine va_get (D := G) (ci := 8) (v := .ref h_t_sizes) (C := RX9) (T := TX9) (N := 42) hx hb hts hinX9 hown hK hP 0 rfl rfl 37 (by decide) (hta _ mw_625) (fun _ h9 => h9) rfl dX9_judge_45 ?_
        refine lv_iload_n hx hb dX9_judge_48 rfl (lv_at hl 1 rfl) ?_
        obtain ⟨hn6, h⟩ := ck_e h
        refine va_iald hx hb hK hP 2 0 rfl rfl hn6 dX9_judge_49 ?_
        refine lv_icmp_ge (tgt := 81) hx hb dX9_judge_50 (by decide) (fun c7 => ?_) (fun c7 => ?_)
        · have h := it_p h c7
          refine lv_iload_n hx hb dX9_judge_81 rfl (lv_at hl 2 rfl) ?_
          have h9 := Option.some.inj h
          have e9 : vL25_0 = r0 := congrArg (fun z9 => z9) h9
          rw [← e9]
          exact k_iret hx hb hr hlocks hP hS rfl dX9_judge_82
        have h := it_n h c7
        refine lv_iload_n hx hb dX9_judge_53 rfl (lv_at hl 2 rfl) ?_
        refine lv_aload_n hx hb dX9_judge_54 rfl (lv_at hl 0 rfl) ?_
        refine va_get (D := G) (ci := 8) (v := .int t_splits) (C := RX9) (T := TX9) (N := 42) hx hb hts hinX9 hown hK hP 0 rfl rfl 4 (by decide) (hta _ mw_639) (fun _ h9 => h9) rfl dX9_judge_55 ?_
        refine lv_icmp_ge (tgt := 81) hx hb dX9_judge_58 (by decide) (fun c8 => ?_) (fun c8 => ?_)
        · have h := it_p h c8
          refine lv_iload_n hx hb dX9_judge_81 rfl (lv_at hl 2 rfl) ?_
          have h9 := Option.some.inj h
          have e9 : vL25_0 = r0 := congrArg (fun z9 => z9) h9
          rw [← e9]
          exact k_iret hx hb hr hlocks hP hS rfl dX9_judge_82
        have h := it_n h c8
        refine lv_aload_n hx hb dX9_judge_61 rfl (lv_at hl 0 rfl) ?_
        refine va_get (D := G) (ci := 8) (v := .ref h_t_items) (C := RX9) (T := TX9) (N := 42) hx hb hts hinX9 hown hK hP 0 rfl rfl 39 (by decide) (hta _ mw_627) (fun _ h9 => h9) rfl dX9_judge_62 ?_
        refine lv_bipush (v := (20 : Int32)) hx hb dX9_judge_65 (by decide) ?_
        refine lv_iload_n hx hb dX9_judge_67 rfl (lv_at hl 1 rfl) ?_
        refine lv_imul hx hb dX9_judge_68 ?_
        refine lv_iload_n hx hb dX9_judge_69 rfl (lv_at hl 2 rfl) ?_
        refine lv_iadd hx hb dX9_judge_70 ?_
        obtain ⟨hn9, h⟩ := ck_e h
        refine va_iald hx hb hK hP 3 0 rfl rfl hn9 dX9_judge_71 ?_
        refine lv_aload_n hx hb dX9_judge_72 rfl (lv_at hl 0 rfl) ?_
        refine va_get (D := G) (ci := 8) (v := .ref h_t_tree) (C := RX9) (T := TX9) (N := 42) hx hb hts hinX9 hown hK hP 0 rfl rfl 5 (by decide) (hta _ mw_607) (fun _ h9 => h9) rfl dX9_judge_73 ?_
        refine lv_iload_n hx hb dX9_judge_76 rfl (lv_at hl 2 rfl) ?_
        obtain ⟨hn10, h⟩ := ck_e h
        refine va_iald hx hb hK hP 4 0 rfl rfl hn10 dX9_judge_77 ?_
        refine lv_icmp_eq (tgt := 83) hx hb dX9_judge_78 (by decide) (fun c11 => ?_) (fun c11 => ?_)
        · have h := it_p h c11
          refine lv_iinc (v := (vL25_0 + (1 : Int32))) (lv' := [(2, .int (vL25_0 + (1 : Int32))), (0, .ref h_t), (1, .int p0)]) hx hb dX9_judge_83 hl (k := 2) rfl (by first | rfl | decide) (by decide) rfl (fun ls hl => ?_)
          refine lv_goto (tgt := 25) hx hb dX9_judge_86 (by decide) ?_
          exact ih25 (vL25_0 + (1 : Int32)) _ _ _ hP hD hS (lv_sub hl [1, 2, 0] rfl) h
        have h := it_n h c11
        refine lv_iload_n hx hb dX9_judge_81 rfl (lv_at hl 2 rfl) ?_
        have h9 := Option.some.inj h
        have e9 : vL25_0 = r0 := congrArg (fun z9 => z9) h9
        rw [← e9]
        exact k_iret hx hb hr hlocks hP hS rfl dX9_judge_82
      refine lv_icmp_lt (tgt := 43) hx hb dX9_judge_32 (by decide) (fun c12 => ?_) (fun c12 => ?_)
      · have h := it_p h c12
        exact hJ_X9_judge_43  _ _ _ hP hD hS (lv_sub hl [0, 1, 2] rfl) h
      have h := it_n h c12
      refine lv_iload_n hx hb dX9_judge_35 rfl (lv_at hl 2 rfl) ?_
      refine lv_aload_n hx hb dX9_judge_36 rfl (lv_at hl 0 rfl) ?_
      refine va_get (D := G) (ci := 8) (v := .int t_splits) (C := RX9) (T := TX9) (N := 42) hx hb hts hinX9 hown hK hP 0 rfl rfl 4 (by decide) (hta _ mw_639) (fun _ h9 => h9) rfl dX9_judge_37 ?_
      refine lv_icmp_ge (tgt := 89) hx hb dX9_judge_40 (by decide) (fun c13 => ?_) (fun c13 => ?_)
      · have h := it_p h c13
        exact hK_X9_judge_25_89  _ _ _ hP hD hS (lv_sub hl [] rfl) h
      have h := it_n h c13
      exact hJ_X9_judge_43  _ _ _ hP hD hS (lv_sub hl [0, 1, 2] rfl) h
  exact hL25 FU (0 : Int32) _ _ _ hP hD hS (lv_sub hl [1, 2, 0] rfl) h

/-! X9_image -/
set_option maxHeartbeats 4000000 in
set_option maxRecDepth 100000 in
theorem c_X9_image (l : Launch) (G : va_G) (cI cJ cD cH : ClassId) (sz : Nat) (h_t : Nat) (h_t_kept : Nat) (h_t_powers : Nat) (h_t_tree : Nat) (h_t_ahead : Nat) (h_t_behind : Nat) (h_t_before : Nat) (h_t_rows : Nat) (h_t_met : Nat) (h_t_metSizes : Nat) (h_t_chosen : Nat) (h_t_tape : Nat) (h_t_toldPowers : Nat) (h_t_powerPlaces : Nat) (h_t_toldTree : Nat) (h_t_splitPlaces : Nat) (h_t_layers : Nat) (h_t_paper : Nat) (h_t_held : Nat) (h_t_numbers : Nat) (h_t_sizes : Nat) (h_t_heldLeaves : Nat) (h_t_items : Nat) (t_genus : Int32) (t_marks : Int32) (t_leaves : Int32) (t_splits : Int32) (t_done : Int32) (t_undone : Int32) (t_metMany : Int32) (t_treesSeen : Int32) (t_taped : Int32) (t_place : Int32) (t_isWrong : Int32) (t_toldGenus : Int32) (t_toldMarks : Int32) (t_isTree : Int32) (t_toldLeaves : Int32) (t_leavesPlace : Int32) (t_toldSplits : Int32) (t_isWhy : Int32) (t_papered : Int32) (t_isKept : Int32) (a_t_kept : Nat → Int32) (a_t_powers : Nat → Int32) (a_t_tree : Nat → Int32) (r0 : Int32) (w0 : Nat → Int32) (w1 : Int32) (hF : F_X9_image t_genus t_marks t_leaves t_splits a_t_kept a_t_powers a_t_tree = some (r0, w0, w1)) : Met l yX9_image wsX9_image ({ frames := 1, cells := 0, slots := 0, locals := 23 }) (k_pre G (k_T cI cJ cD cH) [(h_t, .inr (8, [.int t_genus, .int t_marks, .ref h_t_powers, .int t_leaves, .int t_splits, .ref h_t_tree, .ref h_t_ahead, .ref h_t_behind, .ref h_t_before, .int t_done, .int t_undone, .ref h_t_rows, .ref h_t_met, .ref h_t_metSizes, .int t_metMany, .int t_treesSeen, .ref h_t_chosen, .ref h_t_tape, .int t_taped, .int t_place, .int t_isWrong, .int t_toldGenus, .int t_toldMarks, .ref h_t_toldPowers, .ref h_t_powerPlaces, .int t_isTree, .int t_toldLeaves, .int t_leavesPlace, .int t_toldSplits, .ref h_t_toldTree, .ref h_t_splitPlaces, .ref h_t_layers, .int t_isWhy, .ref h_t_paper, .int t_papered, .ref h_t_held, .ref h_t_numbers, .ref h_t_sizes, .ref h_t_heldLeaves, .ref h_t_items, .ref h_t_kept, .int t_isKept])), (h_t_kept, .inl (cI, 16, .inl a_t_kept)), (h_t_powers, .inl (cI, 8, .inl a_t_powers)), (h_t_tree, .inl (cI, 3, .inl a_t_tree))] sz [.ref h_t]) (va_Qi (fun r (_ : Unit) => r = r0 ∧ True) (fun _ t => va_P G vwCl [(h_t, .inr (8, [.int t_genus, .int t_marks, .ref h_t_powers, .int t_leaves, .int t_splits, .ref h_t_tree, .ref h_t_ahead, .ref h_t_behind, .ref h_t_before, .int t_done, .int t_undone, .ref h_t_rows, .ref h_t_met, .ref h_t_metSizes, .int t_metMany, .int t_treesSeen, .ref h_t_chosen, .ref h_t_tape, .int t_taped, .int t_place, .int t_isWrong, .int t_toldGenus, .int t_toldMarks, .ref h_t_toldPowers, .ref h_t_powerPlaces, .int t_isTree, .int t_toldLeaves, .int t_leavesPlace, .int t_toldSplits, .ref h_t_toldTree, .ref h_t_splitPlaces, .ref h_t_layers, .int t_isWhy, .ref h_t_paper, .int t_papered, .ref h_t_held, .ref h_t_numbers, .ref h_t_sizes, .ref h_t_heldLeaves, .ref h_t_items, .ref h_t_kept, .int w1])), (h_t_kept, .inl (cI, 16, .inl w0)), (h_t_powers, .inl (cI, 8, .inl a_t_powers)), (h_t_tree, .inl (cI, 3, .inl a_t_tree))] t.heap) (va_A [(h_t, .inr (8, [.int t_genus, .int t_marks, .ref h_t_powers, .int t_leaves, .int t_splits, .ref h_t_tree, .ref h_t_ahead, .ref h_t_behind, .ref h_t_before, .int t_done, .int t_undone, .ref h_t_rows, .ref h_t_met, .ref h_t_metSizes, .int t_metMany, .int t_treesSeen, .ref h_t_chosen, .ref h_t_tape, .int t_taped, .int t_place, .int t_isWrong, .int t_toldGenus, .int t_toldMarks, .ref h_t_toldPowers, .ref h_t_powerPlaces, .int t_isTree, .int t_toldLeaves, .int t_leavesPlace, .int t_toldSplits, .ref h_t_toldTree, .ref h_t_splitPlaces, .ref h_t_layers, .int t_isWhy, .ref h_t_paper, .int t_papered, .ref h_t_held, .ref h_t_numbers, .ref h_t_sizes, .ref h_t_heldLeaves, .ref h_t_items, .ref h_t_kept, .int t_isKept])), (h_t_kept, .inl (cI, 16, .inl a_t_kept)), (h_t_powers, .inl (cI, 8, .inl a_t_powers)), (h_t_tree, .inl (cI, 3, .inl a_t_tree))] sz)) 0 0 (va_A [(h_t, .inr (8, [.int t_genus, .int t_marks, .ref h_t_powers, .int t_leaves, .int t_splits, .ref h_t_tree, .ref h_t_ahead, .ref h_t_behind, .ref h_t_before, .int t_done, .int t_undone, .ref h_t_rows, .ref h_t_met, .ref h_t_metSizes, .int t_metMany, .int t_treesSeen, .ref h_t_chosen, .ref h_t_tape, .int t_taped, .int t_place, .int t_isWrong, .int t_toldGenus, .int t_toldMarks, .ref h_t_toldPowers, .ref h_t_powerPlaces, .int t_isTree, .int t_toldLeaves, .int t_leavesPlace, .int t_toldSplits, .ref h_t_toldTree, .ref h_t_splitPlaces, .ref h_t_layers, .int t_isWhy, .ref h_t_paper, .int t_papered, .ref h_t_held, .ref h_t_numbers, .ref h_t_sizes, .ref h_t_heldLeaves, .ref h_t_items, .ref h_t_kept, .int t_isKept])), (h_t_kept, .inl (cI, 16, .inl a_t_kept)), (h_t_powers, .inl (cI, 8, .inl a_t_powers)), (h_t_tree, .inl (cI, 3, .inl a_t_tree))] sz) := by
  refine Met.ofW (cc := cX9_image) (maxL := 1) (ret := (some .int)) (by decide) rfl ?_
  intro p e s m args below meth c s₁ B hml hv
  obtain ⟨rfl, hsz, hP, hK, hD0⟩ := hv
  have hx := B.exec
  have hb := B.bytes
  have hr := B.returns
  have hts := atoms_spec (ws := wsX9_image) B.pre
  have hta : ∀ w ∈ wA, w.before ([.ref h_t] : List Value).toArray s = true := hta_of hts
  have hown : s.vm.findClass RX9 = some m.cls := findClass_of_methodNamed B.named
  have hlocks := B.notSynchronized
  subst hsz
  have hD := hD0.self (sz := s.heap.size)
  generalize hAe : va_A [(h_t, .inr (8, [.int t_genus, .int t_marks, .ref h_t_powers, .int t_leaves, .int t_splits, .ref h_t_tree, .ref h_t_ahead, .ref h_t_behind, .ref h_t_before, .int t_done, .int t_undone, .ref h_t_rows, .ref h_t_met, .ref h_t_metSizes, .int t_metMany, .int t_treesSeen, .ref h_t_chosen, .ref h_t_tape, .int t_taped, .int t_place, .int t_isWrong, .int t_toldGenus, .int t_toldMarks, .ref h_t_toldPowers, .ref h_t_powerPlaces, .int t_isTree, .int t_toldLeaves, .int t_leavesPlace, .int t_toldSplits, .ref h_t_toldTree, .ref h_t_splitPlaces, .ref h_t_layers, .int t_isWhy, .ref h_t_paper, .int t_papered, .ref h_t_held, .ref h_t_numbers, .ref h_t_sizes, .ref h_t_heldLeaves, .ref h_t_items, .ref h_t_kept, .int t_isKept])), (h_t_kept, .inl (cI, 16, .inl a_t_kept)), (h_t_powers, .inl (cI, 8, .inl a_t_powers)), (h_t_tree, .inl (cI, 3, .inl a_t_tree))] s.heap.size = A at hD ⊢
  have hA : ∀ q : Nat, s.heap.size ≤ q → A q := fun q h => by rw [← hAe]; exact Or.inr h
  have hS : va_S A s.heap s.heap [] := va_S.rf
  have hl := lv_entry ([.ref h_t]) (n := 1) (Nat.le_of_ble_eq_true rfl)
  rw [lg_entry_eq]
  generalize (lg_sl ([.ref h_t]) ++ List.replicate (1 - (lg_sl ([.ref h_t])).length) Slot.unset).toArray = ls at hl ⊢
  have hl : lv_has ls 1 [(0, .ref h_t)] := hl
  have hinX9 : ∀ w ∈ wsX90, w ∈ wsX9_image := hin_of in_X9
  have h := hF
  unfold F_X9_image at h
  refine lv_aload_n hx hb dX9_image_0 rfl (lv_at hl 0 rfl) ?_
  refine lv_aload_n hx hb dX9_image_1 rfl (lv_at hl 0 rfl) ?_
  refine va_get (D := G) (ci := 8) (v := .ref h_t_kept) (C := RX9) (T := TX9) (N := 42) hx hb hts hinX9 hown hK hP 0 rfl rfl 40 (by decide) (hta _ mw_628) (fun _ h9 => h9) rfl dX9_image_2 ?_
  refine lv_iconst (v := (0 : Int32)) hx hb dX9_image_5 (by decide) ?_
  obtain ⟨x1, hx1, h⟩ := bd_e h
  try dsimp only at h
  refine k_VvM (n := 2) (As := [.ref h_t_kept, .int (0 : Int32)]) (rest := []) hx hb hml hown hts (c_X9_lays l G cI cJ cD cH s.heap.size h_t h_t_kept h_t_powers h_t_tree h_t_ahead h_t_behind h_t_before h_t_rows h_t_met h_t_metSizes h_t_chosen h_t_tape h_t_toldPowers h_t_powerPlaces h_t_toldTree h_t_splitPlaces h_t_layers h_t_paper h_t_held h_t_numbers h_t_sizes h_t_heldLeaves h_t_items h_t_kept t_genus t_marks t_leaves t_splits t_done t_undone t_metMany t_treesSeen t_taped t_place t_isWrong t_toldGenus t_toldMarks t_isTree t_toldLeaves t_leavesPlace t_toldSplits t_isWhy t_papered t_isKept 16 a_t_kept a_t_powers a_t_tree (0 : Int32) x1 hx1) gX9_image_X9_lays rfl rfl rfl (by decide +kernel) ⟨by first | exact Nat.le_of_ble_eq_true rfl | (simp only [headSpec]; omega), by first | exact Nat.le_of_ble_eq_true rfl | (simp only [headSpec]; omega)⟩ hK hP hD hS hA [0, 1, 2, 3] (by decide) rfl rfl (ci := 8) rfl rfl rfl rfl rfl hl.1 (Nat.le_of_ble_eq_true rfl) dX9_image_6 ⟨Nat.zero_le _, Nat.zero_le _⟩ [(h_t, .inr (8, [.int t_genus, .int t_marks, .ref h_t_powers, .int t_leaves, .int t_splits, .ref h_t_tree, .ref h_t_ahead, .ref h_t_behind, .ref h_t_before, .int t_done, .int t_undone, .ref h_t_rows, .ref h_t_met, .ref h_t_metSizes, .int t_metMany, .int t_treesSeen, .ref h_t_chosen, .ref h_t_tape, .int t_taped, .int t_place, .int t_isWrong, .int t_toldGenus, .int t_toldMarks, .ref h_t_toldPowers, .ref h_t_powerPlaces, .int t_isTree, .int t_toldLeaves, .int t_leavesPlace, .int t_toldSplits, .ref h_t_toldTree, .ref h_t_splitPlaces, .ref h_t_layers, .int t_isWhy, .ref h_t_paper, .int t_papered, .ref h_t_held, .ref h_t_numbers, .ref h_t_sizes, .ref h_t_heldLeaves, .ref h_t_items, .ref h_t_kept, .int t_isKept])), (h_t_kept, .inl (cI, 16, .inl x1)), (h_t_powers, .inl (cI, 8, .inl a_t_powers)), (h_t_tree, .inl (cI, 3, .inl a_t_tree))] [1, 2, 3, 4] 4 (by decide +kernel) rfl rfl rfl (fun hp1 H locs hP hD hS => ?_)
  refine lv_aload_n hx hb dX9_image_9 rfl (lv_at hl 0 rfl) ?_
  refine lv_iconst (v := (1 : Int32)) hx hb dX9_image_10 (by decide) ?_
  refine va_put (D := G) (ci := 8) (v := .int (1 : Int32)) (ty := .boolean) (C := RX9) (T := TX9) (N := 42) hx hb hts hinX9 tyX9 tyX9_ok nmX9 hown hK hP hD hS 0 rfl rfl 41 (by decide) (hta _ mw_885) (fun _ h9 => h9) rfl (by decide +kernel) rfl rfl (Nat.le_of_ble_eq_true rfl) dX9_image_11 (fun H locs hP hD hS => ?_)
  have hP : va_P G vwCl [(h_t, .inr (8, [.int t_genus, .int t_marks, .ref h_t_powers, .int t_leaves, .int t_splits, .ref h_t_tree, .ref h_t_ahead, .ref h_t_behind, .ref h_t_before, .int t_done, .int t_undone, .ref h_t_rows, .ref h_t_met, .ref h_t_metSizes, .int t_metMany, .int t_treesSeen, .ref h_t_chosen, .ref h_t_tape, .int t_taped, .int t_place, .int t_isWrong, .int t_toldGenus, .int t_toldMarks, .ref h_t_toldPowers, .ref h_t_powerPlaces, .int t_isTree, .int t_toldLeaves, .int t_leavesPlace, .int t_toldSplits, .ref h_t_toldTree, .ref h_t_splitPlaces, .ref h_t_layers, .int t_isWhy, .ref h_t_paper, .int t_papered, .ref h_t_held, .ref h_t_numbers, .ref h_t_sizes, .ref h_t_heldLeaves, .ref h_t_items, .ref h_t_kept, .int (1 : Int32)])), (h_t_kept, .inl (cI, 16, .inl x1)), (h_t_powers, .inl (cI, 8, .inl a_t_powers)), (h_t_tree, .inl (cI, 3, .inl a_t_tree))] H := hP
  have hD : va_D A [(h_t, .inr (8, [.int t_genus, .int t_marks, .ref h_t_powers, .int t_leaves, .int t_splits, .ref h_t_tree, .ref h_t_ahead, .ref h_t_behind, .ref h_t_before, .int t_done, .int t_undone, .ref h_t_rows, .ref h_t_met, .ref h_t_metSizes, .int t_metMany, .int t_treesSeen, .ref h_t_chosen, .ref h_t_tape, .int t_taped, .int t_place, .int t_isWrong, .int t_toldGenus, .int t_toldMarks, .ref h_t_toldPowers, .ref h_t_powerPlaces, .int t_isTree, .int t_toldLeaves, .int t_leavesPlace, .int t_toldSplits, .ref h_t_toldTree, .ref h_t_splitPlaces, .ref h_t_layers, .int t_isWhy, .ref h_t_paper, .int t_papered, .ref h_t_held, .ref h_t_numbers, .ref h_t_sizes, .ref h_t_heldLeaves, .ref h_t_items, .ref h_t_kept, .int (1 : Int32)])), (h_t_kept, .inl (cI, 16, .inl x1)), (h_t_powers, .inl (cI, 8, .inl a_t_powers)), (h_t_tree, .inl (cI, 3, .inl a_t_tree))] := hD
  refine lv_aload_n hx hb dX9_image_14 rfl (lv_at hl 0 rfl) ?_
  refine va_get (D := G) (ci := 8) (v := .int t_marks) (C := RX9) (T := TX9) (N := 42) hx hb hts hinX9 hown hK hP 0 rfl rfl 1 (by decide) (hta _ mw_638) (fun _ h9 => h9) rfl dX9_image_15 ?_
  have h9 := Option.some.inj h
  have e9 : t_marks = r0 := congrArg (fun z9 => z9.1) h9
  rw [← e9]
  have e9 : x1 = w0 := congrArg (fun z9 => z9.2.1) h9
  rw [← e9]
  have e9 : (1 : Int32) = w1 := congrArg (fun z9 => z9.2.2) h9
  rw [← e9]
  exact k_iret hx hb hr hlocks hP hS rfl dX9_image_18

/-! X9_restore -/
set_option maxHeartbeats 4000000 in
set_option maxRecDepth 100000 in
theorem c_X9_restore (l : Launch) (G : va_G) (cI cJ cD cH : ClassId) (sz : Nat) (h_t : Nat) (h_t_kept : Nat) (h_t_powers : Nat) (h_t_tree : Nat) (h_t_ahead : Nat) (h_t_behind : Nat) (h_t_before : Nat) (h_t_rows : Nat) (h_t_met : Nat) (h_t_metSizes : Nat) (h_t_chosen : Nat) (h_t_tape : Nat) (h_t_toldPowers : Nat) (h_t_powerPlaces : Nat) (h_t_toldTree : Nat) (h_t_splitPlaces : Nat) (h_t_layers : Nat) (h_t_paper : Nat) (h_t_held : Nat) (h_t_numbers : Nat) (h_t_sizes : Nat) (h_t_heldLeaves : Nat) (h_t_items : Nat) (t_genus : Int32) (t_marks : Int32) (t_leaves : Int32) (t_splits : Int32) (t_done : Int32) (t_undone : Int32) (t_metMany : Int32) (t_treesSeen : Int32) (t_taped : Int32) (t_place : Int32) (t_isWrong : Int32) (t_toldGenus : Int32) (t_toldMarks : Int32) (t_isTree : Int32) (t_toldLeaves : Int32) (t_leavesPlace : Int32) (t_toldSplits : Int32) (t_isWhy : Int32) (t_papered : Int32) (t_isKept : Int32) (a_t_kept : Nat → Int32) (a_t_powers : Nat → Int32) (a_t_tree : Nat → Int32) (r0 : Int32) (w0 : Nat → Int32) (w1 : Nat → Int32) (w2 : Int32) (w3 : Int32) (w4 : Int32) (w5 : Int32) (w6 : Int32) (w7 : Int32) (hF : F_X9_restore t_genus t_marks t_leaves t_splits t_done t_undone t_isKept a_t_kept a_t_powers a_t_tree = some (r0, w0, w1, w2, w3, w4, w5, w6, w7)) : Met l yX9_restore wsX9_restore ({ frames := 1, cells := 0, slots := 0, locals := 23 }) (k_pre G (k_T cI cJ cD cH) [(h_t, .inr (8, [.int t_genus, .int t_marks, .ref h_t_powers, .int t_leaves, .int t_splits, .ref h_t_tree, .ref h_t_ahead, .ref h_t_behind, .ref h_t_before, .int t_done, .int t_undone, .ref h_t_rows, .ref h_t_met, .ref h_t_metSizes, .int t_metMany, .int t_treesSeen, .ref h_t_chosen, .ref h_t_tape, .int t_taped, .int t_place, .int t_isWrong, .int t_toldGenus, .int t_toldMarks, .ref h_t_toldPowers, .ref h_t_powerPlaces, .int t_isTree, .int t_toldLeaves, .int t_leavesPlace, .int t_toldSplits, .ref h_t_toldTree, .ref h_t_splitPlaces, .ref h_t_layers, .int t_isWhy, .ref h_t_paper, .int t_papered, .ref h_t_held, .ref h_t_numbers, .ref h_t_sizes, .ref h_t_heldLeaves, .ref h_t_items, .ref h_t_kept, .int t_isKept])), (h_t_kept, .inl (cI, 16, .inl a_t_kept)), (h_t_powers, .inl (cI, 8, .inl a_t_powers)), (h_t_tree, .inl (cI, 3, .inl a_t_tree))] sz [.ref h_t]) (va_Qi (fun r (_ : Unit) => r = r0 ∧ True) (fun _ t => va_P G vwCl [(h_t, .inr (8, [.int w2, .int w3, .ref h_t_powers, .int w5, .int w6, .ref h_t_tree, .ref h_t_ahead, .ref h_t_behind, .ref h_t_before, .int w7, .int w4, .ref h_t_rows, .ref h_t_met, .ref h_t_metSizes, .int t_metMany, .int t_treesSeen, .ref h_t_chosen, .ref h_t_tape, .int t_taped, .int t_place, .int t_isWrong, .int t_toldGenus, .int t_toldMarks, .ref h_t_toldPowers, .ref h_t_powerPlaces, .int t_isTree, .int t_toldLeaves, .int t_leavesPlace, .int t_toldSplits, .ref h_t_toldTree, .ref h_t_splitPlaces, .ref h_t_layers, .int t_isWhy, .ref h_t_paper, .int t_papered, .ref h_t_held, .ref h_t_numbers, .ref h_t_sizes, .ref h_t_heldLeaves, .ref h_t_items, .ref h_t_kept, .int t_isKept])), (h_t_kept, .inl (cI, 16, .inl a_t_kept)), (h_t_powers, .inl (cI, 8, .inl w0)), (h_t_tree, .inl (cI, 3, .inl w1))] t.heap) (va_A [(h_t, .inr (8, [.int t_genus, .int t_marks, .ref h_t_powers, .int t_leaves, .int t_splits, .ref h_t_tree, .ref h_t_ahead, .ref h_t_behind, .ref h_t_before, .int t_done, .int t_undone, .ref h_t_rows, .ref h_t_met, .ref h_t_metSizes, .int t_metMany, .int t_treesSeen, .ref h_t_chosen, .ref h_t_tape, .int t_taped, .int t_place, .int t_isWrong, .int t_toldGenus, .int t_toldMarks, .ref h_t_toldPowers, .ref h_t_powerPlaces, .int t_isTree, .int t_toldLeaves, .int t_leavesPlace, .int t_toldSplits, .ref h_t_toldTree, .ref h_t_splitPlaces, .ref h_t_layers, .int t_isWhy, .ref h_t_paper, .int t_papered, .ref h_t_held, .ref h_t_numbers, .ref h_t_sizes, .ref h_t_heldLeaves, .ref h_t_items, .ref h_t_kept, .int t_isKept])), (h_t_kept, .inl (cI, 16, .inl a_t_kept)), (h_t_powers, .inl (cI, 8, .inl a_t_powers)), (h_t_tree, .inl (cI, 3, .inl a_t_tree))] sz)) 0 0 (va_A [(h_t, .inr (8, [.int t_genus, .int t_marks, .ref h_t_powers, .int t_leaves, .int t_splits, .ref h_t_tree, .ref h_t_ahead, .ref h_t_behind, .ref h_t_before, .int t_done, .int t_undone, .ref h_t_rows, .ref h_t_met, .ref h_t_metSizes, .int t_metMany, .int t_treesSeen, .ref h_t_chosen, .ref h_t_tape, .int t_taped, .int t_place, .int t_isWrong, .int t_toldGenus, .int t_toldMarks, .ref h_t_toldPowers, .ref h_t_powerPlaces, .int t_isTree, .int t_toldLeaves, .int t_leavesPlace, .int t_toldSplits, .ref h_t_toldTree, .ref h_t_splitPlaces, .ref h_t_layers, .int t_isWhy, .ref h_t_paper, .int t_papered, .ref h_t_held, .ref h_t_numbers, .ref h_t_sizes, .ref h_t_heldLeaves, .ref h_t_items, .ref h_t_kept, .int t_isKept])), (h_t_kept, .inl (cI, 16, .inl a_t_kept)), (h_t_powers, .inl (cI, 8, .inl a_t_powers)), (h_t_tree, .inl (cI, 3, .inl a_t_tree))] sz) := by
  refine Met.ofW (cc := cX9_restore) (maxL := 1) (ret := (some .int)) (by decide) rfl ?_
  intro p e s m args below meth c s₁ B hml hv
  obtain ⟨rfl, hsz, hP, hK, hD0⟩ := hv
  have hx := B.exec
  have hb := B.bytes
  have hr := B.returns
  have hts := atoms_spec (ws := wsX9_restore) B.pre
  have hta : ∀ w ∈ wA, w.before ([.ref h_t] : List Value).toArray s = true := hta_of hts
  have hown : s.vm.findClass RX9 = some m.cls := findClass_of_methodNamed B.named
  have hlocks := B.notSynchronized
  subst hsz
  have hD := hD0.self (sz := s.heap.size)
  generalize hAe : va_A [(h_t, .inr (8, [.int t_genus, .int t_marks, .ref h_t_powers, .int t_leaves, .int t_splits, .ref h_t_tree, .ref h_t_ahead, .ref h_t_behind, .ref h_t_before, .int t_done, .int t_undone, .ref h_t_rows, .ref h_t_met, .ref h_t_metSizes, .int t_metMany, .int t_treesSeen, .ref h_t_chosen, .ref h_t_tape, .int t_taped, .int t_place, .int t_isWrong, .int t_toldGenus, .int t_toldMarks, .ref h_t_toldPowers, .ref h_t_powerPlaces, .int t_isTree, .int t_toldLeaves, .int t_leavesPlace, .int t_toldSplits, .ref h_t_toldTree, .ref h_t_splitPlaces, .ref h_t_layers, .int t_isWhy, .ref h_t_paper, .int t_papered, .ref h_t_held, .ref h_t_numbers, .ref h_t_sizes, .ref h_t_heldLeaves, .ref h_t_items, .ref h_t_kept, .int t_isKept])), (h_t_kept, .inl (cI, 16, .inl a_t_kept)), (h_t_powers, .inl (cI, 8, .inl a_t_powers)), (h_t_tree, .inl (cI, 3, .inl a_t_tree))] s.heap.size = A at hD ⊢
  have hA : ∀ q : Nat, s.heap.size ≤ q → A q := fun q h => by rw [← hAe]; exact Or.inr h
  have hS : va_S A s.heap s.heap [] := va_S.rf
  have hl := lv_entry ([.ref h_t]) (n := 1) (Nat.le_of_ble_eq_true rfl)
  rw [lg_entry_eq]
  generalize (lg_sl ([.ref h_t]) ++ List.replicate (1 - (lg_sl ([.ref h_t])).length) Slot.unset).toArray = ls at hl ⊢
  have hl : lv_has ls 1 [(0, .ref h_t)] := hl
  have hinX9 : ∀ w ∈ wsX90, w ∈ wsX9_restore := hin_of in_X9
  have h := hF
  unfold F_X9_restore at h
  refine lv_aload_n hx hb dX9_restore_0 rfl (lv_at hl 0 rfl) ?_
  refine va_get (D := G) (ci := 8) (v := .int t_isKept) (C := RX9) (T := TX9) (N := 42) hx hb hts hinX9 hown hK hP 0 rfl rfl 41 (by decide) (hta _ mw_885) (fun _ h9 => h9) rfl dX9_restore_1 ?_
  refine lv_if_ne (tgt := 10) hx hb dX9_restore_4 (by decide) (fun c1 => ?_) (fun c1 => ?_)
  rotate_left
  · have h := it_p h c1
    refine lv_bipush (v := (-5 : Int32)) hx hb dX9_restore_7 (by decide) ?_
    have h9 := Option.some.inj h
    have e9 : (-5 : Int32) = r0 := congrArg (fun z9 => z9.1) h9
    rw [← e9]
    have e9 : a_t_powers = w0 := congrArg (fun z9 => z9.2.1) h9
    rw [← e9]
    have e9 : a_t_tree = w1 := congrArg (fun z9 => z9.2.2.1) h9
    rw [← e9]
    have e9 : t_genus = w2 := congrArg (fun z9 => z9.2.2.2.1) h9
    rw [← e9]
    have e9 : t_marks = w3 := congrArg (fun z9 => z9.2.2.2.2.1) h9
    rw [← e9]
    have e9 : t_undone = w4 := congrArg (fun z9 => z9.2.2.2.2.2.1) h9
    rw [← e9]
    have e9 : t_leaves = w5 := congrArg (fun z9 => z9.2.2.2.2.2.2.1) h9
    rw [← e9]
    have e9 : t_splits = w6 := congrArg (fun z9 => z9.2.2.2.2.2.2.2.1) h9
    rw [← e9]
    have e9 : t_done = w7 := congrArg (fun z9 => z9.2.2.2.2.2.2.2.2) h9
    rw [← e9]
    exact k_iret hx hb hr hlocks hP hS rfl dX9_restore_9
  have h := it_n h c1
  refine lv_aload_n hx hb dX9_restore_10 rfl (lv_at hl 0 rfl) ?_
  refine lv_aload_n hx hb dX9_restore_11 rfl (lv_at hl 0 rfl) ?_
  refine va_get (D := G) (ci := 8) (v := .ref h_t_kept) (C := RX9) (T := TX9) (N := 42) hx hb hts hinX9 hown hK hP 0 rfl rfl 40 (by decide) (hta _ mw_628) (fun _ h9 => h9) rfl dX9_restore_12 ?_
  refine lv_iconst (v := (0 : Int32)) hx hb dX9_restore_15 (by decide) ?_
  obtain ⟨x2, hx2, h⟩ := bd_e h
  try dsimp only at h
  refine k_VvM (n := 2) (As := [.ref h_t_kept, .int (0 : Int32)]) (rest := []) hx hb hml hown hts (c_X9_takes l G cI cJ cD cH s.heap.size h_t h_t_kept h_t_powers h_t_tree h_t_ahead h_t_behind h_t_before h_t_rows h_t_met h_t_metSizes h_t_chosen h_t_tape h_t_toldPowers h_t_powerPlaces h_t_toldTree h_t_splitPlaces h_t_layers h_t_paper h_t_held h_t_numbers h_t_sizes h_t_heldLeaves h_t_items h_t_kept t_genus t_marks t_leaves t_splits t_done t_undone t_metMany t_treesSeen t_taped t_place t_isWrong t_toldGenus t_toldMarks t_isTree t_toldLeaves t_leavesPlace t_toldSplits t_isWhy t_papered t_isKept 16 a_t_kept a_t_powers a_t_tree (0 : Int32) (x2.1) (x2.2.1) (x2.2.2.1) (x2.2.2.2.1) (x2.2.2.2.2.1) (x2.2.2.2.2.2) hx2) gX9_restore_X9_takes rfl rfl rfl (by decide +kernel) ⟨by first | exact Nat.le_of_ble_eq_true rfl | (simp only [headSpec]; omega), by first | exact Nat.le_of_ble_eq_true rfl | (simp only [headSpec]; omega)⟩ hK hP hD hS hA [0, 1, 2, 3] (by decide) rfl rfl (ci := 8) rfl rfl rfl rfl rfl hl.1 (Nat.le_of_ble_eq_true rfl) dX9_restore_16 ⟨Nat.zero_le _, Nat.zero_le _⟩ [(h_t, .inr (8, [.int (x2.2.2.1), .int (x2.2.2.2.1), .ref h_t_powers, .int (x2.2.2.2.2.1), .int (x2.2.2.2.2.2), .ref h_t_tree, .ref h_t_ahead, .ref h_t_behind, .ref h_t_before, .int t_done, .int t_undone, .ref h_t_rows, .ref h_t_met, .ref h_t_metSizes, .int t_metMany, .int t_treesSeen, .ref h_t_chosen, .ref h_t_tape, .int t_taped, .int t_place, .int t_isWrong, .int t_toldGenus, .int t_toldMarks, .ref h_t_toldPowers, .ref h_t_powerPlaces, .int t_isTree, .int t_toldLeaves, .int t_leavesPlace, .int t_toldSplits, .ref h_t_toldTree, .ref h_t_splitPlaces, .ref h_t_layers, .int t_isWhy, .ref h_t_paper, .int t_papered, .ref h_t_held, .ref h_t_numbers, .ref h_t_sizes, .ref h_t_heldLeaves, .ref h_t_items, .ref h_t_kept, .int t_isKept])), (h_t_kept, .inl (cI, 16, .inl a_t_kept)), (h_t_powers, .inl (cI, 8, .inl (x2.1))), (h_t_tree, .inl (cI, 3, .inl (x2.2.1)))] [1, 2, 3, 4] 4 (by decide +kernel) rfl rfl rfl (fun hp2 H locs hP hD hS => ?_)
  refine lv_aload_n hx hb dX9_restore_19 rfl (lv_at hl 0 rfl) ?_
  refine lv_iconst (v := (0 : Int32)) hx hb dX9_restore_20 (by decide) ?_
  refine va_put (D := G) (ci := 8) (v := .int (0 : Int32)) (ty := .int) (C := RX9) (T := TX9) (N := 42) hx hb hts hinX9 tyX9 tyX9_ok nmX9 hown hK hP hD hS 0 rfl rfl 9 (by decide) (hta _ mw_646) (fun _ h9 => h9) rfl (by decide +kernel) rfl rfl (Nat.le_of_ble_eq_true rfl) dX9_restore_21 (fun H locs hP hD hS => ?_)
  have hP : va_P G vwCl [(h_t, .inr (8, [.int (x2.2.2.1), .int (x2.2.2.2.1), .ref h_t_powers, .int (x2.2.2.2.2.1), .int (x2.2.2.2.2.2), .ref h_t_tree, .ref h_t_ahead, .ref h_t_behind, .ref h_t_before, .int (0 : Int32), .int t_undone, .ref h_t_rows, .ref h_t_met, .ref h_t_metSizes, .int t_metMany, .int t_treesSeen, .ref h_t_chosen, .ref h_t_tape, .int t_taped, .int t_place, .int t_isWrong, .int t_toldGenus, .int t_toldMarks, .ref h_t_toldPowers, .ref h_t_powerPlaces, .int t_isTree, .int t_toldLeaves, .int t_leavesPlace, .int t_toldSplits, .ref h_t_toldTree, .ref h_t_splitPlaces, .ref h_t_layers, .int t_isWhy, .ref h_t_paper, .int t_papered, .ref h_t_held, .ref h_t_numbers, .ref h_t_sizes, .ref h_t_heldLeaves, .ref h_t_items, .ref h_t_kept, .int t_isKept])), (h_t_kept, .inl (cI, 16, .inl a_t_kept)), (h_t_powers, .inl (cI, 8, .inl (x2.1))), (h_t_tree, .inl (cI, 3, .inl (x2.2.1)))] H := hP
  have hD : va_D A [(h_t, .inr (8, [.int (x2.2.2.1), .int (x2.2.2.2.1), .ref h_t_powers, .int (x2.2.2.2.2.1), .int (x2.2.2.2.2.2), .ref h_t_tree, .ref h_t_ahead, .ref h_t_behind, .ref h_t_before, .int (0 : Int32), .int t_undone, .ref h_t_rows, .ref h_t_met, .ref h_t_metSizes, .int t_metMany, .int t_treesSeen, .ref h_t_chosen, .ref h_t_tape, .int t_taped, .int t_place, .int t_isWrong, .int t_toldGenus, .int t_toldMarks, .ref h_t_toldPowers, .ref h_t_powerPlaces, .int t_isTree, .int t_toldLeaves, .int t_leavesPlace, .int t_toldSplits, .ref h_t_toldTree, .ref h_t_splitPlaces, .ref h_t_layers, .int t_isWhy, .ref h_t_paper, .int t_papered, .ref h_t_held, .ref h_t_numbers, .ref h_t_sizes, .ref h_t_heldLeaves, .ref h_t_items, .ref h_t_kept, .int t_isKept])), (h_t_kept, .inl (cI, 16, .inl a_t_kept)), (h_t_powers, .inl (cI, 8, .inl (x2.1))), (h_t_tree, .inl (cI, 3, .inl (x2.2.1)))] := hD
  refine lv_aload_n hx hb dX9_restore_24 rfl (lv_at hl 0 rfl) ?_
  refine lv_iconst (v := (0 : Int32)) hx hb dX9_restore_25 (by decide) ?_
  refine va_put (D := G) (ci := 8) (v := .int (0 : Int32)) (ty := .int) (C := RX9) (T := TX9) (N := 42) hx hb hts hinX9 tyX9 tyX9_ok nmX9 hown hK hP hD hS 0 rfl rfl 10 (by decide) (hta _ mw_647) (fun _ h9 => h9) rfl (by decide +kernel) rfl rfl (Nat.le_of_ble_eq_true rfl) dX9_restore_26 (fun H locs hP hD hS => ?_)
  have hP : va_P G vwCl [(h_t, .inr (8, [.int (x2.2.2.1), .int (x2.2.2.2.1), .ref h_t_powers, .int (x2.2.2.2.2.1), .int (x2.2.2.2.2.2), .ref h_t_tree, .ref h_t_ahead, .ref h_t_behind, .ref h_t_before, .int (0 : Int32), .int (0 : Int32), .ref h_t_rows, .ref h_t_met, .ref h_t_metSizes, .int t_metMany, .int t_treesSeen, .ref h_t_chosen, .ref h_t_tape, .int t_taped, .int t_place, .int t_isWrong, .int t_toldGenus, .int t_toldMarks, .ref h_t_toldPowers, .ref h_t_powerPlaces, .int t_isTree, .int t_toldLeaves, .int t_leavesPlace, .int t_toldSplits, .ref h_t_toldTree, .ref h_t_splitPlaces, .ref h_t_layers, .int t_isWhy, .ref h_t_paper, .int t_papered, .ref h_t_held, .ref h_t_numbers, .ref h_t_sizes, .ref h_t_heldLeaves, .ref h_t_items, .ref h_t_kept, .int t_isKept])), (h_t_kept, .inl (cI, 16, .inl a_t_kept)), (h_t_powers, .inl (cI, 8, .inl (x2.1))), (h_t_tree, .inl (cI, 3, .inl (x2.2.1)))] H := hP
  have hD : va_D A [(h_t, .inr (8, [.int (x2.2.2.1), .int (x2.2.2.2.1), .ref h_t_powers, .int (x2.2.2.2.2.1), .int (x2.2.2.2.2.2), .ref h_t_tree, .ref h_t_ahead, .ref h_t_behind, .ref h_t_before, .int (0 : Int32), .int (0 : Int32), .ref h_t_rows, .ref h_t_met, .ref h_t_metSizes, .int t_metMany, .int t_treesSeen, .ref h_t_chosen, .ref h_t_tape, .int t_taped, .int t_place, .int t_isWrong, .int t_toldGenus, .int t_toldMarks, .ref h_t_toldPowers, .ref h_t_powerPlaces, .int t_isTree, .int t_toldLeaves, .int t_leavesPlace, .int t_toldSplits, .ref h_t_toldTree, .ref h_t_splitPlaces, .ref h_t_layers, .int t_isWhy, .ref h_t_paper, .int t_papered, .ref h_t_held, .ref h_t_numbers, .ref h_t_sizes, .ref h_t_heldLeaves, .ref h_t_items, .ref h_t_kept, .int t_isKept])), (h_t_kept, .inl (cI, 16, .inl a_t_kept)), (h_t_powers, .inl (cI, 8, .inl (x2.1))), (h_t_tree, .inl (cI, 3, .inl (x2.2.1)))] := hD
  refine lv_aload_n hx hb dX9_restore_29 rfl (lv_at hl 0 rfl) ?_
  refine va_get (D := G) (ci := 8) (v := .int (x2.2.2.2.1)) (C := RX9) (T := TX9) (N := 42) hx hb hts hinX9 hown hK hP 0 rfl rfl 1 (by decide) (hta _ mw_638) (fun _ h9 => h9) rfl dX9_restore_30 ?_
  have h9 := Option.some.inj h
  have e9 : (x2.2.2.2.1) = r0 := congrArg (fun z9 => z9.1) h9
  rw [← e9]
  have e9 : (x2.1) = w0 := congrArg (fun z9 => z9.2.1) h9
  rw [← e9]
  have e9 : (x2.2.1) = w1 := congrArg (fun z9 => z9.2.2.1) h9
  rw [← e9]
  have e9 : (x2.2.2.1) = w2 := congrArg (fun z9 => z9.2.2.2.1) h9
  rw [← e9]
  have e9 : (x2.2.2.2.1) = w3 := congrArg (fun z9 => z9.2.2.2.2.1) h9
  rw [← e9]
  have e9 : (0 : Int32) = w4 := congrArg (fun z9 => z9.2.2.2.2.2.1) h9
  rw [← e9]
  have e9 : (x2.2.2.2.2.1) = w5 := congrArg (fun z9 => z9.2.2.2.2.2.2.1) h9
  rw [← e9]
  have e9 : (x2.2.2.2.2.2) = w6 := congrArg (fun z9 => z9.2.2.2.2.2.2.2.1) h9
  rw [← e9]
  have e9 : (0 : Int32) = w7 := congrArg (fun z9 => z9.2.2.2.2.2.2.2.2) h9
  rw [← e9]
  exact k_iret hx hb hr hlocks hP hS rfl dX9_restore_33

/-! X9_count -/
set_option maxHeartbeats 4000000 in
set_option maxRecDepth 100000 in
theorem c_X9_count (l : Launch) (G : va_G) (cI cJ cD cH : ClassId) (sz : Nat) (h_t : Nat) (h_t_powers : Nat) (h_t_tree : Nat) (h_t_ahead : Nat) (h_t_behind : Nat) (h_t_before : Nat) (h_t_rows : Nat) (h_t_met : Nat) (h_t_metSizes : Nat) (h_t_chosen : Nat) (h_t_tape : Nat) (h_t_toldPowers : Nat) (h_t_powerPlaces : Nat) (h_t_toldTree : Nat) (h_t_splitPlaces : Nat) (h_t_layers : Nat) (h_t_paper : Nat) (h_t_held : Nat) (h_t_numbers : Nat) (h_t_sizes : Nat) (h_t_heldLeaves : Nat) (h_t_items : Nat) (h_t_kept : Nat) (t_genus : Int32) (t_marks : Int32) (t_leaves : Int32) (t_splits : Int32) (t_done : Int32) (t_undone : Int32) (t_metMany : Int32) (t_treesSeen : Int32) (t_taped : Int32) (t_place : Int32) (t_isWrong : Int32) (t_toldGenus : Int32) (t_toldMarks : Int32) (t_isTree : Int32) (t_toldLeaves : Int32) (t_leavesPlace : Int32) (t_toldSplits : Int32) (t_isWhy : Int32) (t_papered : Int32) (t_isKept : Int32) (p0 : Int32) (r0 : Int32) (hF : F_X9_count t_genus t_marks t_leaves t_splits t_done t_undone t_taped p0 = some r0) : Met l yX9_count wsX9_count ({ frames := 0, cells := 0, slots := 0, locals := 0 }) (k_pre G (k_T cI cJ cD cH) [(h_t, .inr (8, [.int t_genus, .int t_marks, .ref h_t_powers, .int t_leaves, .int t_splits, .ref h_t_tree, .ref h_t_ahead, .ref h_t_behind, .ref h_t_before, .int t_done, .int t_undone, .ref h_t_rows, .ref h_t_met, .ref h_t_metSizes, .int t_metMany, .int t_treesSeen, .ref h_t_chosen, .ref h_t_tape, .int t_taped, .int t_place, .int t_isWrong, .int t_toldGenus, .int t_toldMarks, .ref h_t_toldPowers, .ref h_t_powerPlaces, .int t_isTree, .int t_toldLeaves, .int t_leavesPlace, .int t_toldSplits, .ref h_t_toldTree, .ref h_t_splitPlaces, .ref h_t_layers, .int t_isWhy, .ref h_t_paper, .int t_papered, .ref h_t_held, .ref h_t_numbers, .ref h_t_sizes, .ref h_t_heldLeaves, .ref h_t_items, .ref h_t_kept, .int t_isKept]))] sz [.ref h_t, .int p0]) (va_Qi (fun r (_ : Unit) => r = r0 ∧ True) (fun _ t => va_P G vwCl [(h_t, .inr (8, [.int t_genus, .int t_marks, .ref h_t_powers, .int t_leaves, .int t_splits, .ref h_t_tree, .ref h_t_ahead, .ref h_t_behind, .ref h_t_before, .int t_done, .int t_undone, .ref h_t_rows, .ref h_t_met, .ref h_t_metSizes, .int t_metMany, .int t_treesSeen, .ref h_t_chosen, .ref h_t_tape, .int t_taped, .int t_place, .int t_isWrong, .int t_toldGenus, .int t_toldMarks, .ref h_t_toldPowers, .ref h_t_powerPlaces, .int t_isTree, .int t_toldLeaves, .int t_leavesPlace, .int t_toldSplits, .ref h_t_toldTree, .ref h_t_splitPlaces, .ref h_t_layers, .int t_isWhy, .ref h_t_paper, .int t_papered, .ref h_t_held, .ref h_t_numbers, .ref h_t_sizes, .ref h_t_heldLeaves, .ref h_t_items, .ref h_t_kept, .int t_isKept]))] t.heap) (va_A [(h_t, .inr (8, [.int t_genus, .int t_marks, .ref h_t_powers, .int t_leaves, .int t_splits, .ref h_t_tree, .ref h_t_ahead, .ref h_t_behind, .ref h_t_before, .int t_done, .int t_undone, .ref h_t_rows, .ref h_t_met, .ref h_t_metSizes, .int t_metMany, .int t_treesSeen, .ref h_t_chosen, .ref h_t_tape, .int t_taped, .int t_place, .int t_isWrong, .int t_toldGenus, .int t_toldMarks, .ref h_t_toldPowers, .ref h_t_powerPlaces, .int t_isTree, .int t_toldLeaves, .int t_leavesPlace, .int t_toldSplits, .ref h_t_toldTree, .ref h_t_splitPlaces, .ref h_t_layers, .int t_isWhy, .ref h_t_paper, .int t_papered, .ref h_t_held, .ref h_t_numbers, .ref h_t_sizes, .ref h_t_heldLeaves, .ref h_t_items, .ref h_t_kept, .int t_isKept]))] sz)) 0 0 (va_A [(h_t, .inr (8, [.int t_genus, .int t_marks, .ref h_t_powers, .int t_leaves, .int t_splits, .ref h_t_tree, .ref h_t_ahead, .ref h_t_behind, .ref h_t_before, .int t_done, .int t_undone, .ref h_t_rows, .ref h_t_met, .ref h_t_metSizes, .int t_metMany, .int t_treesSeen, .ref h_t_chosen, .ref h_t_tape, .int t_taped, .int t_place, .int t_isWrong, .int t_toldGenus, .int t_toldMarks, .ref h_t_toldPowers, .ref h_t_powerPlaces, .int t_isTree, .int t_toldLeaves, .int t_leavesPlace, .int t_toldSplits, .ref h_t_toldTree, .ref h_t_splitPlaces, .ref h_t_layers, .int t_isWhy, .ref h_t_paper, .int t_papered, .ref h_t_held, .ref h_t_numbers, .ref h_t_sizes, .ref h_t_heldLeaves, .ref h_t_items, .ref h_t_kept, .int t_isKept]))] sz) := by
  refine Met.ofW (cc := cX9_count) (maxL := 2) (ret := (some .int)) (by decide) rfl ?_
  intro p e s m args below meth c s₁ B hml hv
  obtain ⟨rfl, hsz, hP, hK, hD0⟩ := hv
  have hx := B.exec
  have hb := B.bytes
  have hr := B.returns
  have hts := atoms_spec (ws := wsX9_count) B.pre
  have hta : ∀ w ∈ wA, w.before ([.ref h_t, .int p0] : List Value).toArray s = true := hta_of hts
  have hown : s.vm.findClass RX9 = some m.cls := findClass_of_methodNamed B.named
  have hlocks := B.notSynchronized
  subst hsz
  have hD := hD0.self (sz := s.heap.size)
  generalize hAe : va_A [(h_t, .inr (8, [.int t_genus, .int t_marks, .ref h_t_powers, .int t_leaves, .int t_splits, .ref h_t_tree, .ref h_t_ahead, .ref h_t_behind, .ref h_t_before, .int t_done, .int t_undone, .ref h_t_rows, .ref h_t_met, .ref h_t_metSizes, .int t_metMany, .int t_treesSeen, .ref h_t_chosen, .ref h_t_tape, .int t_taped, .int t_place, .int t_isWrong, .int t_toldGenus, .int t_toldMarks, .ref h_t_toldPowers, .ref h_t_powerPlaces, .int t_isTree, .int t_toldLeaves, .int t_leavesPlace, .int t_toldSplits, .ref h_t_toldTree, .ref h_t_splitPlaces, .ref h_t_layers, .int t_isWhy, .ref h_t_paper, .int t_papered, .ref h_t_held, .ref h_t_numbers, .ref h_t_sizes, .ref h_t_heldLeaves, .ref h_t_items, .ref h_t_kept, .int t_isKept]))] s.heap.size = A at hD ⊢
  have hA : ∀ q : Nat, s.heap.size ≤ q → A q := fun q h => by rw [← hAe]; exact Or.inr h
  have hS : va_S A s.heap s.heap [] := va_S.rf
  have hl := lv_entry ([.ref h_t, .int p0]) (n := 2) (Nat.le_of_ble_eq_true rfl)
  rw [lg_entry_eq]
  generalize (lg_sl ([.ref h_t, .int p0]) ++ List.replicate (2 - (lg_sl ([.ref h_t, .int p0])).length) Slot.unset).toArray = ls at hl ⊢
  have hl : lv_has ls 2 [(0, .ref h_t), (1, .int p0)] := hl
  have hinX9 : ∀ w ∈ wsX90, w ∈ wsX9_count := hin_of in_X9
  have h := hF
  unfold F_X9_count at h
  refine lv_iload_n hx hb dX9_count_0 rfl (lv_at hl 1 rfl) ?_
  by_cases c1 : p0 = (0 : Int32)
  · have h := it_p h c1
    refine lv_tableIn (tgt := 44) hx hb dX9_count_1 (by rw [c1]; decide) (by rw [c1]; decide) (off := 43) (by rw [c1]; decide) (by decide) ?_
    refine lv_aload_n hx hb dX9_count_44 rfl (lv_at hl 0 rfl) ?_
    refine va_get (D := G) (ci := 8) (v := .int t_genus) (C := RX9) (T := TX9) (N := 42) hx hb hts hinX9 hown hK hP 0 rfl rfl 0 (by decide) (hta _ mw_637) (fun _ h9 => h9) rfl dX9_count_45 ?_
    have h9 := Option.some.inj h
    have e9 : t_genus = r0 := congrArg (fun z9 => z9) h9
    rw [← e9]
    exact k_iret hx hb hr hlocks hP hS rfl dX9_count_48
  have h := it_n h c1
  by_cases c2 : p0 = (1 : Int32)
  · have h := it_p h c2
    refine lv_tableIn (tgt := 49) hx hb dX9_count_1 (by rw [c2]; decide) (by rw [c2]; decide) (off := 48) (by rw [c2]; decide) (by decide) ?_
    refine lv_aload_n hx hb dX9_count_49 rfl (lv_at hl 0 rfl) ?_
    refine va_get (D := G) (ci := 8) (v := .int t_marks) (C := RX9) (T := TX9) (N := 42) hx hb hts hinX9 hown hK hP 0 rfl rfl 1 (by decide) (hta _ mw_638) (fun _ h9 => h9) rfl dX9_count_50 ?_
    have h9 := Option.some.inj h
    have e9 : t_marks = r0 := congrArg (fun z9 => z9) h9
    rw [← e9]
    exact k_iret hx hb hr hlocks hP hS rfl dX9_count_53
  have h := it_n h c2
  by_cases c3 : p0 = (2 : Int32)
  · have h := it_p h c3
    refine lv_tableIn (tgt := 54) hx hb dX9_count_1 (by rw [c3]; decide) (by rw [c3]; decide) (off := 53) (by rw [c3]; decide) (by decide) ?_
    refine lv_aload_n hx hb dX9_count_54 rfl (lv_at hl 0 rfl) ?_
    refine va_get (D := G) (ci := 8) (v := .int t_leaves) (C := RX9) (T := TX9) (N := 42) hx hb hts hinX9 hown hK hP 0 rfl rfl 3 (by decide) (hta _ mw_606) (fun _ h9 => h9) rfl dX9_count_55 ?_
    have h9 := Option.some.inj h
    have e9 : t_leaves = r0 := congrArg (fun z9 => z9) h9
    rw [← e9]
    exact k_iret hx hb hr hlocks hP hS rfl dX9_count_58
  have h := it_n h c3
  by_cases c4 : p0 = (3 : Int32)
  · have h := it_p h c4
    refine lv_tableIn (tgt := 59) hx hb dX9_count_1 (by rw [c4]; decide) (by rw [c4]; decide) (off := 58) (by rw [c4]; decide) (by decide) ?_
    refine lv_aload_n hx hb dX9_count_59 rfl (lv_at hl 0 rfl) ?_
    refine va_get (D := G) (ci := 8) (v := .int t_splits) (C := RX9) (T := TX9) (N := 42) hx hb hts hinX9 hown hK hP 0 rfl rfl 4 (by decide) (hta _ mw_639) (fun _ h9 => h9) rfl dX9_count_60 ?_
    have h9 := Option.some.inj h
    have e9 : t_splits = r0 := congrArg (fun z9 => z9) h9
    rw [← e9]
    exact k_iret hx hb hr hlocks hP hS rfl dX9_count_63
  have h := it_n h c4
  by_cases c5 : p0 = (4 : Int32)
  · have h := it_p h c5
    refine lv_tableIn (tgt := 64) hx hb dX9_count_1 (by rw [c5]; decide) (by rw [c5]; decide) (off := 63) (by rw [c5]; decide) (by decide) ?_
    refine lv_aload_n hx hb dX9_count_64 rfl (lv_at hl 0 rfl) ?_
    refine va_get (D := G) (ci := 8) (v := .int t_done) (C := RX9) (T := TX9) (N := 42) hx hb hts hinX9 hown hK hP 0 rfl rfl 9 (by decide) (hta _ mw_646) (fun _ h9 => h9) rfl dX9_count_65 ?_
    have h9 := Option.some.inj h
    have e9 : t_done = r0 := congrArg (fun z9 => z9) h9
    rw [← e9]
    exact k_iret hx hb hr hlocks hP hS rfl dX9_count_68
  have h := it_n h c5
  by_cases c6 : p0 = (5 : Int32)
  · have h := it_p h c6
    refine lv_tableIn (tgt := 69) hx hb dX9_count_1 (by rw [c6]; decide) (by rw [c6]; decide) (off := 68) (by rw [c6]; decide) (by decide) ?_
    refine lv_aload_n hx hb dX9_count_69 rfl (lv_at hl 0 rfl) ?_
    refine va_get (D := G) (ci := 8) (v := .int t_undone) (C := RX9) (T := TX9) (N := 42) hx hb hts hinX9 hown hK hP 0 rfl rfl 10 (by decide) (hta _ mw_647) (fun _ h9 => h9) rfl dX9_count_70 ?_
    have h9 := Option.some.inj h
    have e9 : t_undone = r0 := congrArg (fun z9 => z9) h9
    rw [← e9]
    exact k_iret hx hb hr hlocks hP hS rfl dX9_count_73
  have h := it_n h c6
  by_cases c7 : p0 = (6 : Int32)
  · have h := it_p h c7
    refine lv_tableIn (tgt := 74) hx hb dX9_count_1 (by rw [c7]; decide) (by rw [c7]; decide) (off := 73) (by rw [c7]; decide) (by decide) ?_
    refine lv_aload_n hx hb dX9_count_74 rfl (lv_at hl 0 rfl) ?_
    refine va_get (D := G) (ci := 8) (v := .int t_taped) (C := RX9) (T := TX9) (N := 42) hx hb hts hinX9 hown hK hP 0 rfl rfl 18 (by decide) (hta _ mw_800) (fun _ h9 => h9) rfl dX9_count_75 ?_
    have h9 := Option.some.inj h
    have e9 : t_taped = r0 := congrArg (fun z9 => z9) h9
    rw [← e9]
    exact k_iret hx hb hr hlocks hP hS rfl dX9_count_78
  have h := it_n h c7
  refine lv_tableOut (tgt := 79) hx hb dX9_count_1 (k_tout7  c1 c2 c3 c4 c5 c6 c7) (by decide) ?_
  refine lv_iconst (v := (-1 : Int32)) hx hb dX9_count_79 (by decide) ?_
  have h9 := Option.some.inj h
  have e9 : (-1 : Int32) = r0 := congrArg (fun z9 => z9) h9
  rw [← e9]
  exact k_iret hx hb hr hlocks hP hS rfl dX9_count_80
