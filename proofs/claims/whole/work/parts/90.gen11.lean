/-! X9_read -/
set_option maxHeartbeats 4000000 in
set_option maxRecDepth 100000 in
theorem tJ_X9_read_161 {l : Launch} {G : va_G} {cI cJ cD cH : ClassId} {h_t : Nat} {h_t_tape : Nat} {h_t_powerPlaces : Nat} {h_t_toldPowers : Nat} {h_t_splitPlaces : Nat} {h_t_toldTree : Nat} {h_t_before : Nat} {h_t_powers : Nat} {h_t_tree : Nat} {h_t_layers : Nat} {h_t_behind : Nat} {h_t_ahead : Nat} {h_t_rows : Nat} {h_t_met : Nat} {h_t_metSizes : Nat} {h_t_chosen : Nat} {h_t_paper : Nat} {h_t_held : Nat} {h_t_numbers : Nat} {h_t_sizes : Nat} {h_t_heldLeaves : Nat} {h_t_items : Nat} {h_t_kept : Nat} {t_leaves : Int32} {t_splits : Int32} {t_done : Int32} {t_undone : Int32} {t_metMany : Int32} {t_treesSeen : Int32} {t_isWhy : Int32} {t_papered : Int32} {t_isKept : Int32} {a_t_tape : Nat → Int32} {a_t_tree : Nat → Int32} {a_t_layers : Nat → Int32} {a_t_behind : Nat → Int32} {a_t_ahead : Nat → Int32} {r0 : Int32} {w0 : Nat → Int32} {w1 : Nat → Int32} {w2 : Nat → Int32} {w3 : Nat → Int32} {w4 : Nat → Int32} {w5 : Nat → Int32} {w6 : Nat → Int32} {w7 : Nat → Int32} {w8 : Nat → Int32} {w9 : Nat → Int32} {w10 : Int32} {w11 : Int32} {w12 : Int32} {w13 : Int32} {w14 : Int32} {w15 : Int32} {w16 : Int32} {w17 : Int32} {w18 : Int32} {w19 : Int32} {w20 : Int32} {w21 : Int32} {w22 : Int32} {w23 : Int32} {w24 : Int32} {w25 : Int32} {x1 : (Nat → Int32) × (Nat → Int32) × (Nat → Int32) × (Nat → Int32) × Int32 × Int32 × Int32 × Int32 × Int32 × Int32 × Int32 × Int32} {x5 : (Nat → Int32)} {vK89_115_0 : Nat → Int32} {p : Program} {e : Env} {s : State} {m : MethodId} {below : List Frame} {meth : Method} {c : Code} {A : Nat → Prop} (hx : p.tables.exec = Jvm.exec) (hb : c.code = cX9_read) (hr : meth.sig.returnType = (some .int)) (hml : c.maxLocals = 3) (hts : ∀ w ∈ wsX9_read, w.before ([.ref h_t] : List Value).toArray s = true) (hown : s.vm.findClass RX9 = some m.cls) (hlocks : meth.locks = false) (hK : va_K G vwCl (k_T cI cJ cD cH) s) (hA : ∀ q : Nat, s.heap.size ≤ q → A q) : ∀ (H : Heap) (locs : List Loc) (ls : Array Slot), va_P G vwCl [(h_t, .inr (8, [.int (x1.2.2.2.2.2.2.1), .int (x1.2.2.2.2.2.2.2.1), .ref h_t_powers, .int t_leaves, .int t_splits, .ref h_t_tree, .ref h_t_ahead, .ref h_t_behind, .ref h_t_before, .int t_done, .int t_undone, .ref h_t_rows, .ref h_t_met, .ref h_t_metSizes, .int t_metMany, .int t_treesSeen, .ref h_t_chosen, .ref h_t_tape, .int (0 : Int32), .int (x1.2.2.2.2.1), .int (x1.2.2.2.2.2.1), .int (x1.2.2.2.2.2.2.1), .int (x1.2.2.2.2.2.2.2.1), .ref h_t_toldPowers, .ref h_t_powerPlaces, .int (x1.2.2.2.2.2.2.2.2.1), .int (x1.2.2.2.2.2.2.2.2.2.1), .int (x1.2.2.2.2.2.2.2.2.2.2.1), .int (x1.2.2.2.2.2.2.2.2.2.2.2), .ref h_t_toldTree, .ref h_t_splitPlaces, .ref h_t_layers, .int t_isWhy, .ref h_t_paper, .int t_papered, .ref h_t_held, .ref h_t_numbers, .ref h_t_sizes, .ref h_t_heldLeaves, .ref h_t_items, .ref h_t_kept, .int t_isKept])), (h_t_tape, .inl (cI, 60, .inl a_t_tape)), (h_t_powerPlaces, .inl (cI, 8, .inl (x1.1))), (h_t_toldPowers, .inl (cI, 8, .inl (x1.2.1))), (h_t_splitPlaces, .inl (cI, 3, .inl (x1.2.2.1))), (h_t_toldTree, .inl (cI, 3, .inl (x1.2.2.2.1))), (h_t_before, .inl (cI, 16, .inl x5)), (h_t_powers, .inl (cI, 8, .inl vK89_115_0)), (h_t_tree, .inl (cI, 3, .inl a_t_tree)), (h_t_layers, .inl (cI, 6, .inl a_t_layers)), (h_t_behind, .inl (cI, 144, .inl a_t_behind)), (h_t_ahead, .inl (cI, 144, .inl a_t_ahead))] H → va_D A [(h_t, .inr (8, [.int (x1.2.2.2.2.2.2.1), .int (x1.2.2.2.2.2.2.2.1), .ref h_t_powers, .int t_leaves, .int t_splits, .ref h_t_tree, .ref h_t_ahead, .ref h_t_behind, .ref h_t_before, .int t_done, .int t_undone, .ref h_t_rows, .ref h_t_met, .ref h_t_metSizes, .int t_metMany, .int t_treesSeen, .ref h_t_chosen, .ref h_t_tape, .int (0 : Int32), .int (x1.2.2.2.2.1), .int (x1.2.2.2.2.2.1), .int (x1.2.2.2.2.2.2.1), .int (x1.2.2.2.2.2.2.2.1), .ref h_t_toldPowers, .ref h_t_powerPlaces, .int (x1.2.2.2.2.2.2.2.2.1), .int (x1.2.2.2.2.2.2.2.2.2.1), .int (x1.2.2.2.2.2.2.2.2.2.2.1), .int (x1.2.2.2.2.2.2.2.2.2.2.2), .ref h_t_toldTree, .ref h_t_splitPlaces, .ref h_t_layers, .int t_isWhy, .ref h_t_paper, .int t_papered, .ref h_t_held, .ref h_t_numbers, .ref h_t_sizes, .ref h_t_heldLeaves, .ref h_t_items, .ref h_t_kept, .int t_isKept])), (h_t_tape, .inl (cI, 60, .inl a_t_tape)), (h_t_powerPlaces, .inl (cI, 8, .inl (x1.1))), (h_t_toldPowers, .inl (cI, 8, .inl (x1.2.1))), (h_t_splitPlaces, .inl (cI, 3, .inl (x1.2.2.1))), (h_t_toldTree, .inl (cI, 3, .inl (x1.2.2.2.1))), (h_t_before, .inl (cI, 16, .inl x5)), (h_t_powers, .inl (cI, 8, .inl vK89_115_0)), (h_t_tree, .inl (cI, 3, .inl a_t_tree)), (h_t_layers, .inl (cI, 6, .inl a_t_layers)), (h_t_behind, .inl (cI, 144, .inl a_t_behind)), (h_t_ahead, .inl (cI, 144, .inl a_t_ahead))] → va_S A s.heap H locs → lv_has ls 3 [(0, .ref h_t)] → J_X9_read_161 t_leaves t_splits t_done t_undone t_isWhy a_t_tree a_t_layers a_t_behind a_t_ahead x1 x5 vK89_115_0 = some (r0, w0, w1, w2, w3, w4, w5, w6, w7, w8, w9, w10, w11, w12, w13, w14, w15, w16, w17, w18, w19, w20, w21, w22, w23, w24, w25) → W p l e (headSpec wsX9_read ({ frames := 5, cells := 0, slots := 0, locals := 108 })).room s m ([.ref h_t] : List Value).toArray below meth c H locs 0 0 (MQ below (va_Qi (fun r (_ : Unit) => r = r0 ∧ True) (fun _ t => va_P G vwCl [(h_t, .inr (8, [.int w10, .int w11, .ref h_t_powers, .int w22, .int w24, .ref h_t_tree, .ref h_t_ahead, .ref h_t_behind, .ref h_t_before, .int w25, .int w12, .ref h_t_rows, .ref h_t_met, .ref h_t_metSizes, .int t_metMany, .int t_treesSeen, .ref h_t_chosen, .ref h_t_tape, .int w13, .int w14, .int w15, .int w16, .int w17, .ref h_t_toldPowers, .ref h_t_powerPlaces, .int w18, .int w19, .int w20, .int w21, .ref h_t_toldTree, .ref h_t_splitPlaces, .ref h_t_layers, .int w23, .ref h_t_paper, .int t_papered, .ref h_t_held, .ref h_t_numbers, .ref h_t_sizes, .ref h_t_heldLeaves, .ref h_t_items, .ref h_t_kept, .int t_isKept])), (h_t_tape, .inl (cI, 60, .inl a_t_tape)), (h_t_powerPlaces, .inl (cI, 8, .inl w2)), (h_t_toldPowers, .inl (cI, 8, .inl w3)), (h_t_splitPlaces, .inl (cI, 3, .inl w4)), (h_t_toldTree, .inl (cI, 3, .inl w5)), (h_t_before, .inl (cI, 16, .inl w6)), (h_t_powers, .inl (cI, 8, .inl w7)), (h_t_tree, .inl (cI, 3, .inl w8)), (h_t_layers, .inl (cI, 6, .inl w9)), (h_t_behind, .inl (cI, 144, .inl w0)), (h_t_ahead, .inl (cI, 144, .inl w1))] t.heap) A) ([.ref h_t] : List Value).toArray s 0 0 A) (F0 m 161 ls []) := by
  have hta : ∀ w ∈ wA, w.before ([.ref h_t] : List Value).toArray s = true := hta_of hts
  have hinX9 : ∀ w ∈ wsX90, w ∈ wsX9_read := hin_of in_X9
  intro  H locs ls hP hD hS hl h
  unfold J_X9_read_161 at h
  refine lv_aload_n hx hb dX9_read_161 rfl (lv_at hl 0 rfl) ?_
  obtain ⟨x6, hx6, h⟩ := bd_e h
  try dsimp only at h
  refine k_VvM (n := 0) (As := []) (rest := []) hx hb hml hown hts (c_X9_ends l G cI cJ cD cH H.size h_t h_t_behind h_t_powers h_t_tree h_t_before h_t_ahead h_t_rows h_t_met h_t_metSizes h_t_chosen h_t_tape h_t_toldPowers h_t_powerPlaces h_t_toldTree h_t_splitPlaces h_t_layers h_t_paper h_t_held h_t_numbers h_t_sizes h_t_heldLeaves h_t_items h_t_kept (x1.2.2.2.2.2.2.1) (x1.2.2.2.2.2.2.2.1) t_leaves t_splits t_done t_undone t_metMany t_treesSeen (0 : Int32) (x1.2.2.2.2.1) (x1.2.2.2.2.2.1) (x1.2.2.2.2.2.2.1) (x1.2.2.2.2.2.2.2.1) (x1.2.2.2.2.2.2.2.2.1) (x1.2.2.2.2.2.2.2.2.2.1) (x1.2.2.2.2.2.2.2.2.2.2.1) (x1.2.2.2.2.2.2.2.2.2.2.2) t_isWhy t_papered t_isKept a_t_behind vK89_115_0 a_t_tree x5 a_t_ahead (x6.1) (x6.2.1) (x6.2.2.1) (x6.2.2.2) hx6) gX9_read_X9_ends rfl rfl rfl (by decide +kernel) ⟨by first | exact Nat.le_of_ble_eq_true rfl | (simp only [headSpec]; omega), by first | exact Nat.le_of_ble_eq_true rfl | (simp only [headSpec]; omega)⟩ hK hP hD hS hA [0, 10, 7, 8, 6, 11] (by decide) rfl rfl (ci := 8) rfl rfl rfl rfl rfl hl.1 (Nat.le_of_ble_eq_true rfl) dX9_read_162 ⟨Nat.zero_le _, Nat.zero_le _⟩ [(h_t, .inr (8, [.int (x1.2.2.2.2.2.2.1), .int (x1.2.2.2.2.2.2.2.1), .ref h_t_powers, .int t_leaves, .int t_splits, .ref h_t_tree, .ref h_t_ahead, .ref h_t_behind, .ref h_t_before, .int (x6.2.2.2), .int (x6.2.2.1), .ref h_t_rows, .ref h_t_met, .ref h_t_metSizes, .int t_metMany, .int t_treesSeen, .ref h_t_chosen, .ref h_t_tape, .int (0 : Int32), .int (x1.2.2.2.2.1), .int (x1.2.2.2.2.2.1), .int (x1.2.2.2.2.2.2.1), .int (x1.2.2.2.2.2.2.2.1), .ref h_t_toldPowers, .ref h_t_powerPlaces, .int (x1.2.2.2.2.2.2.2.2.1), .int (x1.2.2.2.2.2.2.2.2.2.1), .int (x1.2.2.2.2.2.2.2.2.2.2.1), .int (x1.2.2.2.2.2.2.2.2.2.2.2), .ref h_t_toldTree, .ref h_t_splitPlaces, .ref h_t_layers, .int t_isWhy, .ref h_t_paper, .int t_papered, .ref h_t_held, .ref h_t_numbers, .ref h_t_sizes, .ref h_t_heldLeaves, .ref h_t_items, .ref h_t_kept, .int t_isKept])), (h_t_tape, .inl (cI, 60, .inl a_t_tape)), (h_t_powerPlaces, .inl (cI, 8, .inl (x1.1))), (h_t_toldPowers, .inl (cI, 8, .inl (x1.2.1))), (h_t_splitPlaces, .inl (cI, 3, .inl (x1.2.2.1))), (h_t_toldTree, .inl (cI, 3, .inl (x1.2.2.2.1))), (h_t_before, .inl (cI, 16, .inl x5)), (h_t_powers, .inl (cI, 8, .inl vK89_115_0)), (h_t_tree, .inl (cI, 3, .inl a_t_tree)), (h_t_layers, .inl (cI, 6, .inl a_t_layers)), (h_t_behind, .inl (cI, 144, .inl (x6.1))), (h_t_ahead, .inl (cI, 144, .inl (x6.2.1)))] [1, 0, 0, 0, 0, 0, 5, 3, 4, 0, 2, 6] 6 (by decide +kernel) rfl rfl rfl (fun hp6 H locs hP hD hS => ?_)
  refine lv_aload_n hx hb dX9_read_165 rfl (lv_at hl 0 rfl) ?_
  refine va_get (D := G) (ci := 8) (v := .int (x1.2.2.2.2.2.2.2.1)) (C := RX9) (T := TX9) (N := 42) hx hb hts hinX9 hown hK hP 0 rfl rfl 1 (by decide) (hta _ mw_641) (fun _ h9 => h9) rfl dX9_read_166 ?_
  have h9 := Option.some.inj h
  have e9 : (x1.2.2.2.2.2.2.2.1) = r0 := congrArg (fun z9 => z9.1) h9
  rw [← e9]
  have e9 : (x6.1) = w0 := congrArg (fun z9 => z9.2.1) h9
  rw [← e9]
  have e9 : (x6.2.1) = w1 := congrArg (fun z9 => z9.2.2.1) h9
  rw [← e9]
  have e9 : (x1.1) = w2 := congrArg (fun z9 => z9.2.2.2.1) h9
  rw [← e9]
  have e9 : (x1.2.1) = w3 := congrArg (fun z9 => z9.2.2.2.2.1) h9
  rw [← e9]
  have e9 : (x1.2.2.1) = w4 := congrArg (fun z9 => z9.2.2.2.2.2.1) h9
  rw [← e9]
  have e9 : (x1.2.2.2.1) = w5 := congrArg (fun z9 => z9.2.2.2.2.2.2.1) h9
  rw [← e9]
  have e9 : x5 = w6 := congrArg (fun z9 => z9.2.2.2.2.2.2.2.1) h9
  rw [← e9]
  have e9 : vK89_115_0 = w7 := congrArg (fun z9 => z9.2.2.2.2.2.2.2.2.1) h9
  rw [← e9]
  have e9 : a_t_tree = w8 := congrArg (fun z9 => z9.2.2.2.2.2.2.2.2.2.1) h9
  rw [← e9]
  have e9 : a_t_layers = w9 := congrArg (fun z9 => z9.2.2.2.2.2.2.2.2.2.2.1) h9
  rw [← e9]
  have e9 : (x1.2.2.2.2.2.2.1) = w10 := congrArg (fun z9 => z9.2.2.2.2.2.2.2.2.2.2.2.1) h9
  rw [← e9]
  have e9 : (x1.2.2.2.2.2.2.2.1) = w11 := congrArg (fun z9 => z9.2.2.2.2.2.2.2.2.2.2.2.2.1) h9
  rw [← e9]
  have e9 : (x6.2.2.1) = w12 := congrArg (fun z9 => z9.2.2.2.2.2.2.2.2.2.2.2.2.2.1) h9
  rw [← e9]
  have e9 : (0 : Int32) = w13 := congrArg (fun z9 => z9.2.2.2.2.2.2.2.2.2.2.2.2.2.2.1) h9
  rw [← e9]
  have e9 : (x1.2.2.2.2.1) = w14 := congrArg (fun z9 => z9.2.2.2.2.2.2.2.2.2.2.2.2.2.2.2.1) h9
  rw [← e9]
  have e9 : (x1.2.2.2.2.2.1) = w15 := congrArg (fun z9 => z9.2.2.2.2.2.2.2.2.2.2.2.2.2.2.2.2.1) h9
  rw [← e9]
  have e9 : (x1.2.2.2.2.2.2.1) = w16 := congrArg (fun z9 => z9.2.2.2.2.2.2.2.2.2.2.2.2.2.2.2.2.2.1) h9
  rw [← e9]
  have e9 : (x1.2.2.2.2.2.2.2.1) = w17 := congrArg (fun z9 => z9.2.2.2.2.2.2.2.2.2.2.2.2.2.2.2.2.2.2.1) h9
  rw [← e9]
  have e9 : (x1.2.2.2.2.2.2.2.2.1) = w18 := congrArg (fun z9 => z9.2.2.2.2.2.2.2.2.2.2.2.2.2.2.2.2.2.2.2.1) h9
  rw [← e9]
  have e9 : (x1.2.2.2.2.2.2.2.2.2.1) = w19 := congrArg (fun z9 => z9.2.2.2.2.2.2.2.2.2.2.2.2.2.2.2.2.2.2.2.2.1) h9
  rw [← e9]
  have e9 : (x1.2.2.2.2.2.2.2.2.2.2.1) = w20 := congrArg (fun z9 => z9.2.2.2.2.2.2.2.2.2.2.2.2.2.2.2.2.2.2.2.2.2.1) h9
  rw [← e9]
  have e9 : (x1.2.2.2.2.2.2.2.2.2.2.2) = w21 := congrArg (fun z9 => z9.2.2.2.2.2.2.2.2.2.2.2.2.2.2.2.2.2.2.2.2.2.2.1) h9
  rw [← e9]
  have e9 : t_leaves = w22 := congrArg (fun z9 => z9.2.2.2.2.2.2.2.2.2.2.2.2.2.2.2.2.2.2.2.2.2.2.2.1) h9
  rw [← e9]
  have e9 : t_isWhy = w23 := congrArg (fun z9 => z9.2.2.2.2.2.2.2.2.2.2.2.2.2.2.2.2.2.2.2.2.2.2.2.2.1) h9
  rw [← e9]
  have e9 : t_splits = w24 := congrArg (fun z9 => z9.2.2.2.2.2.2.2.2.2.2.2.2.2.2.2.2.2.2.2.2.2.2.2.2.2.1) h9
  rw [← e9]
  have e9 : (x6.2.2.2) = w25 := congrArg (fun z9 => z9.2.2.2.2.2.2.2.2.2.2.2.2.2.2.2.2.2.2.2.2.2.2.2.2.2.2) h9
  rw [← e9]
  exact k_iret hx hb hr hlocks hP hS rfl dX9_read_169
set_option maxHeartbeats 4000000 in
set_option maxRecDepth 100000 in
theorem tK_X9_read_137_161 {l : Launch} {G : va_G} {cI cJ cD cH : ClassId} {h_t : Nat} {h_t_tape : Nat} {h_t_powerPlaces : Nat} {h_t_toldPowers : Nat} {h_t_splitPlaces : Nat} {h_t_toldTree : Nat} {h_t_before : Nat} {h_t_powers : Nat} {h_t_tree : Nat} {h_t_layers : Nat} {h_t_behind : Nat} {h_t_ahead : Nat} {h_t_rows : Nat} {h_t_met : Nat} {h_t_metSizes : Nat} {h_t_chosen : Nat} {h_t_paper : Nat} {h_t_held : Nat} {h_t_numbers : Nat} {h_t_sizes : Nat} {h_t_heldLeaves : Nat} {h_t_items : Nat} {h_t_kept : Nat} {t_done : Int32} {t_undone : Int32} {t_metMany : Int32} {t_treesSeen : Int32} {t_isWhy : Int32} {t_papered : Int32} {t_isKept : Int32} {a_t_tape : Nat → Int32} {a_t_layers : Nat → Int32} {a_t_behind : Nat → Int32} {a_t_ahead : Nat → Int32} {r0 : Int32} {w0 : Nat → Int32} {w1 : Nat → Int32} {w2 : Nat → Int32} {w3 : Nat → Int32} {w4 : Nat → Int32} {w5 : Nat → Int32} {w6 : Nat → Int32} {w7 : Nat → Int32} {w8 : Nat → Int32} {w9 : Nat → Int32} {w10 : Int32} {w11 : Int32} {w12 : Int32} {w13 : Int32} {w14 : Int32} {w15 : Int32} {w16 : Int32} {w17 : Int32} {w18 : Int32} {w19 : Int32} {w20 : Int32} {w21 : Int32} {w22 : Int32} {w23 : Int32} {w24 : Int32} {w25 : Int32} {x1 : (Nat → Int32) × (Nat → Int32) × (Nat → Int32) × (Nat → Int32) × Int32 × Int32 × Int32 × Int32 × Int32 × Int32 × Int32 × Int32} {x5 : (Nat → Int32)} {vK89_115_0 : Nat → Int32} {p : Program} {e : Env} {s : State} {m : MethodId} {below : List Frame} {meth : Method} {c : Code} {A : Nat → Prop} (hx : p.tables.exec = Jvm.exec) (hb : c.code = cX9_read) (hr : meth.sig.returnType = (some .int)) (hml : c.maxLocals = 3) (hts : ∀ w ∈ wsX9_read, w.before ([.ref h_t] : List Value).toArray s = true) (hown : s.vm.findClass RX9 = some m.cls) (hlocks : meth.locks = false) (hK : va_K G vwCl (k_T cI cJ cD cH) s) (hA : ∀ q : Nat, s.heap.size ≤ q → A q) : ∀  (vK137_161_0 : Nat → Int32) (vK137_161_1 : Int32) (H : Heap) (locs : List Loc) (ls : Array Slot), va_P G vwCl [(h_t, .inr (8, [.int (x1.2.2.2.2.2.2.1), .int (x1.2.2.2.2.2.2.2.1), .ref h_t_powers, .int (x1.2.2.2.2.2.2.2.2.2.1), .int vK137_161_1, .ref h_t_tree, .ref h_t_ahead, .ref h_t_behind, .ref h_t_before, .int t_done, .int t_undone, .ref h_t_rows, .ref h_t_met, .ref h_t_metSizes, .int t_metMany, .int t_treesSeen, .ref h_t_chosen, .ref h_t_tape, .int (0 : Int32), .int (x1.2.2.2.2.1), .int (x1.2.2.2.2.2.1), .int (x1.2.2.2.2.2.2.1), .int (x1.2.2.2.2.2.2.2.1), .ref h_t_toldPowers, .ref h_t_powerPlaces, .int (x1.2.2.2.2.2.2.2.2.1), .int (x1.2.2.2.2.2.2.2.2.2.1), .int (x1.2.2.2.2.2.2.2.2.2.2.1), .int (x1.2.2.2.2.2.2.2.2.2.2.2), .ref h_t_toldTree, .ref h_t_splitPlaces, .ref h_t_layers, .int t_isWhy, .ref h_t_paper, .int t_papered, .ref h_t_held, .ref h_t_numbers, .ref h_t_sizes, .ref h_t_heldLeaves, .ref h_t_items, .ref h_t_kept, .int t_isKept])), (h_t_tape, .inl (cI, 60, .inl a_t_tape)), (h_t_powerPlaces, .inl (cI, 8, .inl (x1.1))), (h_t_toldPowers, .inl (cI, 8, .inl (x1.2.1))), (h_t_splitPlaces, .inl (cI, 3, .inl (x1.2.2.1))), (h_t_toldTree, .inl (cI, 3, .inl (x1.2.2.2.1))), (h_t_before, .inl (cI, 16, .inl x5)), (h_t_powers, .inl (cI, 8, .inl vK89_115_0)), (h_t_tree, .inl (cI, 3, .inl vK137_161_0)), (h_t_layers, .inl (cI, 6, .inl a_t_layers)), (h_t_behind, .inl (cI, 144, .inl a_t_behind)), (h_t_ahead, .inl (cI, 144, .inl a_t_ahead))] H → va_D A [(h_t, .inr (8, [.int (x1.2.2.2.2.2.2.1), .int (x1.2.2.2.2.2.2.2.1), .ref h_t_powers, .int (x1.2.2.2.2.2.2.2.2.2.1), .int vK137_161_1, .ref h_t_tree, .ref h_t_ahead, .ref h_t_behind, .ref h_t_before, .int t_done, .int t_undone, .ref h_t_rows, .ref h_t_met, .ref h_t_metSizes, .int t_metMany, .int t_treesSeen, .ref h_t_chosen, .ref h_t_tape, .int (0 : Int32), .int (x1.2.2.2.2.1), .int (x1.2.2.2.2.2.1), .int (x1.2.2.2.2.2.2.1), .int (x1.2.2.2.2.2.2.2.1), .ref h_t_toldPowers, .ref h_t_powerPlaces, .int (x1.2.2.2.2.2.2.2.2.1), .int (x1.2.2.2.2.2.2.2.2.2.1), .int (x1.2.2.2.2.2.2.2.2.2.2.1), .int (x1.2.2.2.2.2.2.2.2.2.2.2), .ref h_t_toldTree, .ref h_t_splitPlaces, .ref h_t_layers, .int t_isWhy, .ref h_t_paper, .int t_papered, .ref h_t_held, .ref h_t_numbers, .ref h_t_sizes, .ref h_t_heldLeaves, .ref h_t_items, .ref h_t_kept, .int t_isKept])), (h_t_tape, .inl (cI, 60, .inl a_t_tape)), (h_t_powerPlaces, .inl (cI, 8, .inl (x1.1))), (h_t_toldPowers, .inl (cI, 8, .inl (x1.2.1))), (h_t_splitPlaces, .inl (cI, 3, .inl (x1.2.2.1))), (h_t_toldTree, .inl (cI, 3, .inl (x1.2.2.2.1))), (h_t_before, .inl (cI, 16, .inl x5)), (h_t_powers, .inl (cI, 8, .inl vK89_115_0)), (h_t_tree, .inl (cI, 3, .inl vK137_161_0)), (h_t_layers, .inl (cI, 6, .inl a_t_layers)), (h_t_behind, .inl (cI, 144, .inl a_t_behind)), (h_t_ahead, .inl (cI, 144, .inl a_t_ahead))] → va_S A s.heap H locs → lv_has ls 3 [(0, .ref h_t)] → K_X9_read_137_161 t_done t_undone t_isWhy a_t_layers a_t_behind a_t_ahead x1 x5 vK89_115_0 vK137_161_0 vK137_161_1 = some (r0, w0, w1, w2, w3, w4, w5, w6, w7, w8, w9, w10, w11, w12, w13, w14, w15, w16, w17, w18, w19, w20, w21, w22, w23, w24, w25) → W p l e (headSpec wsX9_read ({ frames := 5, cells := 0, slots := 0, locals := 108 })).room s m ([.ref h_t] : List Value).toArray below meth c H locs 0 0 (MQ below (va_Qi (fun r (_ : Unit) => r = r0 ∧ True) (fun _ t => va_P G vwCl [(h_t, .inr (8, [.int w10, .int w11, .ref h_t_powers, .int w22, .int w24, .ref h_t_tree, .ref h_t_ahead, .ref h_t_behind, .ref h_t_before, .int w25, .int w12, .ref h_t_rows, .ref h_t_met, .ref h_t_metSizes, .int t_metMany, .int t_treesSeen, .ref h_t_chosen, .ref h_t_tape, .int w13, .int w14, .int w15, .int w16, .int w17, .ref h_t_toldPowers, .ref h_t_powerPlaces, .int w18, .int w19, .int w20, .int w21, .ref h_t_toldTree, .ref h_t_splitPlaces, .ref h_t_layers, .int w23, .ref h_t_paper, .int t_papered, .ref h_t_held, .ref h_t_numbers, .ref h_t_sizes, .ref h_t_heldLeaves, .ref h_t_items, .ref h_t_kept, .int t_isKept])), (h_t_tape, .inl (cI, 60, .inl a_t_tape)), (h_t_powerPlaces, .inl (cI, 8, .inl w2)), (h_t_toldPowers, .inl (cI, 8, .inl w3)), (h_t_splitPlaces, .inl (cI, 3, .inl w4)), (h_t_toldTree, .inl (cI, 3, .inl w5)), (h_t_before, .inl (cI, 16, .inl w6)), (h_t_powers, .inl (cI, 8, .inl w7)), (h_t_tree, .inl (cI, 3, .inl w8)), (h_t_layers, .inl (cI, 6, .inl w9)), (h_t_behind, .inl (cI, 144, .inl w0)), (h_t_ahead, .inl (cI, 144, .inl w1))] t.heap) A) ([.ref h_t] : List Value).toArray s 0 0 A) (F0 m 161 ls []) := by
  have hta : ∀ w ∈ wA, w.before ([.ref h_t] : List Value).toArray s = true := hta_of hts
  have hinX9 : ∀ w ∈ wsX90, w ∈ wsX9_read := hin_of in_X9
  intro vK137_161_0 vK137_161_1 H locs ls hP hD hS hl h
  unfold K_X9_read_137_161 at h
  refine lv_aload_n hx hb dX9_read_161 rfl (lv_at hl 0 rfl) ?_
  obtain ⟨x8, hx8, h⟩ := bd_e h
  try dsimp only at h
  refine k_VvM (n := 0) (As := []) (rest := []) hx hb hml hown hts (c_X9_ends l G cI cJ cD cH H.size h_t h_t_behind h_t_powers h_t_tree h_t_before h_t_ahead h_t_rows h_t_met h_t_metSizes h_t_chosen h_t_tape h_t_toldPowers h_t_powerPlaces h_t_toldTree h_t_splitPlaces h_t_layers h_t_paper h_t_held h_t_numbers h_t_sizes h_t_heldLeaves h_t_items h_t_kept (x1.2.2.2.2.2.2.1) (x1.2.2.2.2.2.2.2.1) (x1.2.2.2.2.2.2.2.2.2.1) vK137_161_1 t_done t_undone t_metMany t_treesSeen (0 : Int32) (x1.2.2.2.2.1) (x1.2.2.2.2.2.1) (x1.2.2.2.2.2.2.1) (x1.2.2.2.2.2.2.2.1) (x1.2.2.2.2.2.2.2.2.1) (x1.2.2.2.2.2.2.2.2.2.1) (x1.2.2.2.2.2.2.2.2.2.2.1) (x1.2.2.2.2.2.2.2.2.2.2.2) t_isWhy t_papered t_isKept a_t_behind vK89_115_0 vK137_161_0 x5 a_t_ahead (x8.1) (x8.2.1) (x8.2.2.1) (x8.2.2.2) hx8) gX9_read_X9_ends rfl rfl rfl (by decide +kernel) ⟨by first | exact Nat.le_of_ble_eq_true rfl | (simp only [headSpec]; omega), by first | exact Nat.le_of_ble_eq_true rfl | (simp only [headSpec]; omega)⟩ hK hP hD hS hA [0, 10, 7, 8, 6, 11] (by decide) rfl rfl (ci := 8) rfl rfl rfl rfl rfl hl.1 (Nat.le_of_ble_eq_true rfl) dX9_read_162 ⟨Nat.zero_le _, Nat.zero_le _⟩ [(h_t, .inr (8, [.int (x1.2.2.2.2.2.2.1), .int (x1.2.2.2.2.2.2.2.1), .ref h_t_powers, .int (x1.2.2.2.2.2.2.2.2.2.1), .int vK137_161_1, .ref h_t_tree, .ref h_t_ahead, .ref h_t_behind, .ref h_t_before, .int (x8.2.2.2), .int (x8.2.2.1), .ref h_t_rows, .ref h_t_met, .ref h_t_metSizes, .int t_metMany, .int t_treesSeen, .ref h_t_chosen, .ref h_t_tape, .int (0 : Int32), .int (x1.2.2.2.2.1), .int (x1.2.2.2.2.2.1), .int (x1.2.2.2.2.2.2.1), .int (x1.2.2.2.2.2.2.2.1), .ref h_t_toldPowers, .ref h_t_powerPlaces, .int (x1.2.2.2.2.2.2.2.2.1), .int (x1.2.2.2.2.2.2.2.2.2.1), .int (x1.2.2.2.2.2.2.2.2.2.2.1), .int (x1.2.2.2.2.2.2.2.2.2.2.2), .ref h_t_toldTree, .ref h_t_splitPlaces, .ref h_t_layers, .int t_isWhy, .ref h_t_paper, .int t_papered, .ref h_t_held, .ref h_t_numbers, .ref h_t_sizes, .ref h_t_heldLeaves, .ref h_t_items, .ref h_t_kept, .int t_isKept])), (h_t_tape, .inl (cI, 60, .inl a_t_tape)), (h_t_powerPlaces, .inl (cI, 8, .inl (x1.1))), (h_t_toldPowers, .inl (cI, 8, .inl (x1.2.1))), (h_t_splitPlaces, .inl (cI, 3, .inl (x1.2.2.1))), (h_t_toldTree, .inl (cI, 3, .inl (x1.2.2.2.1))), (h_t_before, .inl (cI, 16, .inl x5)), (h_t_powers, .inl (cI, 8, .inl vK89_115_0)), (h_t_tree, .inl (cI, 3, .inl vK137_161_0)), (h_t_layers, .inl (cI, 6, .inl a_t_layers)), (h_t_behind, .inl (cI, 144, .inl (x8.1))), (h_t_ahead, .inl (cI, 144, .inl (x8.2.1)))] [1, 0, 0, 0, 0, 0, 5, 3, 4, 0, 2, 6] 6 (by decide +kernel) rfl rfl rfl (fun hp8 H locs hP hD hS => ?_)
  refine lv_aload_n hx hb dX9_read_165 rfl (lv_at hl 0 rfl) ?_
  refine va_get (D := G) (ci := 8) (v := .int (x1.2.2.2.2.2.2.2.1)) (C := RX9) (T := TX9) (N := 42) hx hb hts hinX9 hown hK hP 0 rfl rfl 1 (by decide) (hta _ mw_641) (fun _ h9 => h9) rfl dX9_read_166 ?_
  have h9 := Option.some.inj h
  have e9 : (x1.2.2.2.2.2.2.2.1) = r0 := congrArg (fun z9 => z9.1) h9
  rw [← e9]
  have e9 : (x8.1) = w0 := congrArg (fun z9 => z9.2.1) h9
  rw [← e9]
  have e9 : (x8.2.1) = w1 := congrArg (fun z9 => z9.2.2.1) h9
  rw [← e9]
  have e9 : (x1.1) = w2 := congrArg (fun z9 => z9.2.2.2.1) h9
  rw [← e9]
  have e9 : (x1.2.1) = w3 := congrArg (fun z9 => z9.2.2.2.2.1) h9
  rw [← e9]
  have e9 : (x1.2.2.1) = w4 := congrArg (fun z9 => z9.2.2.2.2.2.1) h9
  rw [← e9]
  have e9 : (x1.2.2.2.1) = w5 := congrArg (fun z9 => z9.2.2.2.2.2.2.1) h9
  rw [← e9]
  have e9 : x5 = w6 := congrArg (fun z9 => z9.2.2.2.2.2.2.2.1) h9
  rw [← e9]
  have e9 : vK89_115_0 = w7 := congrArg (fun z9 => z9.2.2.2.2.2.2.2.2.1) h9
  rw [← e9]
  have e9 : vK137_161_0 = w8 := congrArg (fun z9 => z9.2.2.2.2.2.2.2.2.2.1) h9
  rw [← e9]
  have e9 : a_t_layers = w9 := congrArg (fun z9 => z9.2.2.2.2.2.2.2.2.2.2.1) h9
  rw [← e9]
  have e9 : (x1.2.2.2.2.2.2.1) = w10 := congrArg (fun z9 => z9.2.2.2.2.2.2.2.2.2.2.2.1) h9
  rw [← e9]
  have e9 : (x1.2.2.2.2.2.2.2.1) = w11 := congrArg (fun z9 => z9.2.2.2.2.2.2.2.2.2.2.2.2.1) h9
  rw [← e9]
  have e9 : (x8.2.2.1) = w12 := congrArg (fun z9 => z9.2.2.2.2.2.2.2.2.2.2.2.2.2.1) h9
  rw [← e9]
  have e9 : (0 : Int32) = w13 := congrArg (fun z9 => z9.2.2.2.2.2.2.2.2.2.2.2.2.2.2.1) h9
  rw [← e9]
  have e9 : (x1.2.2.2.2.1) = w14 := congrArg (fun z9 => z9.2.2.2.2.2.2.2.2.2.2.2.2.2.2.2.1) h9
  rw [← e9]
  have e9 : (x1.2.2.2.2.2.1) = w15 := congrArg (fun z9 => z9.2.2.2.2.2.2.2.2.2.2.2.2.2.2.2.2.1) h9
  rw [← e9]
  have e9 : (x1.2.2.2.2.2.2.1) = w16 := congrArg (fun z9 => z9.2.2.2.2.2.2.2.2.2.2.2.2.2.2.2.2.2.1) h9
  rw [← e9]
  have e9 : (x1.2.2.2.2.2.2.2.1) = w17 := congrArg (fun z9 => z9.2.2.2.2.2.2.2.2.2.2.2.2.2.2.2.2.2.2.1) h9
  rw [← e9]
  have e9 : (x1.2.2.2.2.2.2.2.2.1) = w18 := congrArg (fun z9 => z9.2.2.2.2.2.2.2.2.2.2.2.2.2.2.2.2.2.2.2.1) h9
  rw [← e9]
  have e9 : (x1.2.2.2.2.2.2.2.2.2.1) = w19 := congrArg (fun z9 => z9.2.2.2.2.2.2.2.2.2.2.2.2.2.2.2.2.2.2.2.2.1) h9
  rw [← e9]
  have e9 : (x1.2.2.2.2.2.2.2.2.2.2.1) = w20 := congrArg (fun z9 => z9.2.2.2.2.2.2.2.2.2.2.2.2.2.2.2.2.2.2.2.2.2.1) h9
  rw [← e9]
  have e9 : (x1.2.2.2.2.2.2.2.2.2.2.2) = w21 := congrArg (fun z9 => z9.2.2.2.2.2.2.2.2.2.2.2.2.2.2.2.2.2.2.2.2.2.2.1) h9
  rw [← e9]
  have e9 : (x1.2.2.2.2.2.2.2.2.2.1) = w22 := congrArg (fun z9 => z9.2.2.2.2.2.2.2.2.2.2.2.2.2.2.2.2.2.2.2.2.2.2.2.1) h9
  rw [← e9]
  have e9 : t_isWhy = w23 := congrArg (fun z9 => z9.2.2.2.2.2.2.2.2.2.2.2.2.2.2.2.2.2.2.2.2.2.2.2.2.1) h9
  rw [← e9]
  have e9 : vK137_161_1 = w24 := congrArg (fun z9 => z9.2.2.2.2.2.2.2.2.2.2.2.2.2.2.2.2.2.2.2.2.2.2.2.2.2.1) h9
  rw [← e9]
  have e9 : (x8.2.2.2) = w25 := congrArg (fun z9 => z9.2.2.2.2.2.2.2.2.2.2.2.2.2.2.2.2.2.2.2.2.2.2.2.2.2.2) h9
  rw [← e9]
  exact k_iret hx hb hr hlocks hP hS rfl dX9_read_169
set_option maxHeartbeats 4000000 in
set_option maxRecDepth 100000 in
theorem tK_X9_read_89_115 {l : Launch} {G : va_G} {cI cJ cD cH : ClassId} {h_t : Nat} {h_t_tape : Nat} {h_t_powerPlaces : Nat} {h_t_toldPowers : Nat} {h_t_splitPlaces : Nat} {h_t_toldTree : Nat} {h_t_before : Nat} {h_t_powers : Nat} {h_t_tree : Nat} {h_t_layers : Nat} {h_t_behind : Nat} {h_t_ahead : Nat} {h_t_rows : Nat} {h_t_met : Nat} {h_t_metSizes : Nat} {h_t_chosen : Nat} {h_t_paper : Nat} {h_t_held : Nat} {h_t_numbers : Nat} {h_t_sizes : Nat} {h_t_heldLeaves : Nat} {h_t_items : Nat} {h_t_kept : Nat} {t_leaves : Int32} {t_splits : Int32} {t_done : Int32} {t_undone : Int32} {t_metMany : Int32} {t_treesSeen : Int32} {t_isWhy : Int32} {t_papered : Int32} {t_isKept : Int32} {a_t_tape : Nat → Int32} {a_t_tree : Nat → Int32} {a_t_layers : Nat → Int32} {a_t_behind : Nat → Int32} {a_t_ahead : Nat → Int32} {r0 : Int32} {w0 : Nat → Int32} {w1 : Nat → Int32} {w2 : Nat → Int32} {w3 : Nat → Int32} {w4 : Nat → Int32} {w5 : Nat → Int32} {w6 : Nat → Int32} {w7 : Nat → Int32} {w8 : Nat → Int32} {w9 : Nat → Int32} {w10 : Int32} {w11 : Int32} {w12 : Int32} {w13 : Int32} {w14 : Int32} {w15 : Int32} {w16 : Int32} {w17 : Int32} {w18 : Int32} {w19 : Int32} {w20 : Int32} {w21 : Int32} {w22 : Int32} {w23 : Int32} {w24 : Int32} {w25 : Int32} {x1 : (Nat → Int32) × (Nat → Int32) × (Nat → Int32) × (Nat → Int32) × Int32 × Int32 × Int32 × Int32 × Int32 × Int32 × Int32 × Int32} {x5 : (Nat → Int32)} {p : Program} {e : Env} {s : State} {m : MethodId} {below : List Frame} {meth : Method} {c : Code} {A : Nat → Prop} (hx : p.tables.exec = Jvm.exec) (hb : c.code = cX9_read) (hr : meth.sig.returnType = (some .int)) (hml : c.maxLocals = 3) (hts : ∀ w ∈ wsX9_read, w.before ([.ref h_t] : List Value).toArray s = true) (hown : s.vm.findClass RX9 = some m.cls) (hlocks : meth.locks = false) (hK : va_K G vwCl (k_T cI cJ cD cH) s) (hA : ∀ q : Nat, s.heap.size ≤ q → A q) : ∀  (vK89_115_0 : Nat → Int32) (H : Heap) (locs : List Loc) (ls : Array Slot), va_P G vwCl [(h_t, .inr (8, [.int (x1.2.2.2.2.2.2.1), .int (x1.2.2.2.2.2.2.2.1), .ref h_t_powers, .int t_leaves, .int t_splits, .ref h_t_tree, .ref h_t_ahead, .ref h_t_behind, .ref h_t_before, .int t_done, .int t_undone, .ref h_t_rows, .ref h_t_met, .ref h_t_metSizes, .int t_metMany, .int t_treesSeen, .ref h_t_chosen, .ref h_t_tape, .int (0 : Int32), .int (x1.2.2.2.2.1), .int (x1.2.2.2.2.2.1), .int (x1.2.2.2.2.2.2.1), .int (x1.2.2.2.2.2.2.2.1), .ref h_t_toldPowers, .ref h_t_powerPlaces, .int (x1.2.2.2.2.2.2.2.2.1), .int (x1.2.2.2.2.2.2.2.2.2.1), .int (x1.2.2.2.2.2.2.2.2.2.2.1), .int (x1.2.2.2.2.2.2.2.2.2.2.2), .ref h_t_toldTree, .ref h_t_splitPlaces, .ref h_t_layers, .int t_isWhy, .ref h_t_paper, .int t_papered, .ref h_t_held, .ref h_t_numbers, .ref h_t_sizes, .ref h_t_heldLeaves, .ref h_t_items, .ref h_t_kept, .int t_isKept])), (h_t_tape, .inl (cI, 60, .inl a_t_tape)), (h_t_powerPlaces, .inl (cI, 8, .inl (x1.1))), (h_t_toldPowers, .inl (cI, 8, .inl (x1.2.1))), (h_t_splitPlaces, .inl (cI, 3, .inl (x1.2.2.1))), (h_t_toldTree, .inl (cI, 3, .inl (x1.2.2.2.1))), (h_t_before, .inl (cI, 16, .inl x5)), (h_t_powers, .inl (cI, 8, .inl vK89_115_0)), (h_t_tree, .inl (cI, 3, .inl a_t_tree)), (h_t_layers, .inl (cI, 6, .inl a_t_layers)), (h_t_behind, .inl (cI, 144, .inl a_t_behind)), (h_t_ahead, .inl (cI, 144, .inl a_t_ahead))] H → va_D A [(h_t, .inr (8, [.int (x1.2.2.2.2.2.2.1), .int (x1.2.2.2.2.2.2.2.1), .ref h_t_powers, .int t_leaves, .int t_splits, .ref h_t_tree, .ref h_t_ahead, .ref h_t_behind, .ref h_t_before, .int t_done, .int t_undone, .ref h_t_rows, .ref h_t_met, .ref h_t_metSizes, .int t_metMany, .int t_treesSeen, .ref h_t_chosen, .ref h_t_tape, .int (0 : Int32), .int (x1.2.2.2.2.1), .int (x1.2.2.2.2.2.1), .int (x1.2.2.2.2.2.2.1), .int (x1.2.2.2.2.2.2.2.1), .ref h_t_toldPowers, .ref h_t_powerPlaces, .int (x1.2.2.2.2.2.2.2.2.1), .int (x1.2.2.2.2.2.2.2.2.2.1), .int (x1.2.2.2.2.2.2.2.2.2.2.1), .int (x1.2.2.2.2.2.2.2.2.2.2.2), .ref h_t_toldTree, .ref h_t_splitPlaces, .ref h_t_layers, .int t_isWhy, .ref h_t_paper, .int t_papered, .ref h_t_held, .ref h_t_numbers, .ref h_t_sizes, .ref h_t_heldLeaves, .ref h_t_items, .ref h_t_kept, .int t_isKept])), (h_t_tape, .inl (cI, 60, .inl a_t_tape)), (h_t_powerPlaces, .inl (cI, 8, .inl (x1.1))), (h_t_toldPowers, .inl (cI, 8, .inl (x1.2.1))), (h_t_splitPlaces, .inl (cI, 3, .inl (x1.2.2.1))), (h_t_toldTree, .inl (cI, 3, .inl (x1.2.2.2.1))), (h_t_before, .inl (cI, 16, .inl x5)), (h_t_powers, .inl (cI, 8, .inl vK89_115_0)), (h_t_tree, .inl (cI, 3, .inl a_t_tree)), (h_t_layers, .inl (cI, 6, .inl a_t_layers)), (h_t_behind, .inl (cI, 144, .inl a_t_behind)), (h_t_ahead, .inl (cI, 144, .inl a_t_ahead))] → va_S A s.heap H locs → lv_has ls 3 [(0, .ref h_t)] → K_X9_read_89_115 t_leaves t_splits t_done t_undone t_isWhy a_t_tree a_t_layers a_t_behind a_t_ahead x1 x5 vK89_115_0 = some (r0, w0, w1, w2, w3, w4, w5, w6, w7, w8, w9, w10, w11, w12, w13, w14, w15, w16, w17, w18, w19, w20, w21, w22, w23, w24, w25) → W p l e (headSpec wsX9_read ({ frames := 5, cells := 0, slots := 0, locals := 108 })).room s m ([.ref h_t] : List Value).toArray below meth c H locs 0 0 (MQ below (va_Qi (fun r (_ : Unit) => r = r0 ∧ True) (fun _ t => va_P G vwCl [(h_t, .inr (8, [.int w10, .int w11, .ref h_t_powers, .int w22, .int w24, .ref h_t_tree, .ref h_t_ahead, .ref h_t_behind, .ref h_t_before, .int w25, .int w12, .ref h_t_rows, .ref h_t_met, .ref h_t_metSizes, .int t_metMany, .int t_treesSeen, .ref h_t_chosen, .ref h_t_tape, .int w13, .int w14, .int w15, .int w16, .int w17, .ref h_t_toldPowers, .ref h_t_powerPlaces, .int w18, .int w19, .int w20, .int w21, .ref h_t_toldTree, .ref h_t_splitPlaces, .ref h_t_layers, .int w23, .ref h_t_paper, .int t_papered, .ref h_t_held, .ref h_t_numbers, .ref h_t_sizes, .ref h_t_heldLeaves, .ref h_t_items, .ref h_t_kept, .int t_isKept])), (h_t_tape, .inl (cI, 60, .inl a_t_tape)), (h_t_powerPlaces, .inl (cI, 8, .inl w2)), (h_t_toldPowers, .inl (cI, 8, .inl w3)), (h_t_splitPlaces, .inl (cI, 3, .inl w4)), (h_t_toldTree, .inl (cI, 3, .inl w5)), (h_t_before, .inl (cI, 16, .inl w6)), (h_t_powers, .inl (cI, 8, .inl w7)), (h_t_tree, .inl (cI, 3, .inl w8)), (h_t_layers, .inl (cI, 6, .inl w9)), (h_t_behind, .inl (cI, 144, .inl w0)), (h_t_ahead, .inl (cI, 144, .inl w1))] t.heap) A) ([.ref h_t] : List Value).toArray s 0 0 A) (F0 m 115 ls []) := by
  have hta : ∀ w ∈ wA, w.before ([.ref h_t] : List Value).toArray s = true := hta_of hts
  have hinX9 : ∀ w ∈ wsX90, w ∈ wsX9_read := hin_of in_X9
  intro vK89_115_0 H locs ls hP hD hS hl h
  unfold K_X9_read_89_115 at h
  refine lv_aload_n hx hb dX9_read_115 rfl (lv_at hl 0 rfl) ?_
  refine va_get (D := G) (ci := 8) (v := .int (x1.2.2.2.2.2.2.2.2.1)) (C := RX9) (T := TX9) (N := 42) hx hb hts hinX9 hown hK hP 0 rfl rfl 25 (by decide) (hta _ mw_827) (fun _ h9 => h9) rfl dX9_read_116 ?_
  refine lv_if_eq (tgt := 161) hx hb dX9_read_119 (by decide) (fun c7 => ?_) (fun c7 => ?_)
  · have h := it_p h c7
    exact tJ_X9_read_161 hx hb hr hml hts hown hlocks hK hA  _ _ _ hP hD hS (lv_sub hl [0] rfl) h
  have h := it_n h c7
  refine lv_aload_n hx hb dX9_read_122 rfl (lv_at hl 0 rfl) ?_
  refine lv_aload_n hx hb dX9_read_123 rfl (lv_at hl 0 rfl) ?_
  refine va_get (D := G) (ci := 8) (v := .int (x1.2.2.2.2.2.2.2.2.2.1)) (C := RX9) (T := TX9) (N := 42) hx hb hts hinX9 hown hK hP 0 rfl rfl 26 (by decide) (hta _ mw_830) (fun _ h9 => h9) rfl dX9_read_124 ?_
  refine va_put (D := G) (ci := 8) (v := .int (x1.2.2.2.2.2.2.2.2.2.1)) (ty := .int) (C := RX9) (T := TX9) (N := 42) hx hb hts hinX9 tyX9 tyX9_ok nmX9 hown hK hP hD hS 0 rfl rfl 3 (by decide) (hta _ mw_609) (fun _ h9 => h9) rfl (by decide +kernel) rfl rfl (Nat.le_of_ble_eq_true rfl) dX9_read_127 (fun H locs hP hD hS => ?_)
  have hP : va_P G vwCl [(h_t, .inr (8, [.int (x1.2.2.2.2.2.2.1), .int (x1.2.2.2.2.2.2.2.1), .ref h_t_powers, .int (x1.2.2.2.2.2.2.2.2.2.1), .int t_splits, .ref h_t_tree, .ref h_t_ahead, .ref h_t_behind, .ref h_t_before, .int t_done, .int t_undone, .ref h_t_rows, .ref h_t_met, .ref h_t_metSizes, .int t_metMany, .int t_treesSeen, .ref h_t_chosen, .ref h_t_tape, .int (0 : Int32), .int (x1.2.2.2.2.1), .int (x1.2.2.2.2.2.1), .int (x1.2.2.2.2.2.2.1), .int (x1.2.2.2.2.2.2.2.1), .ref h_t_toldPowers, .ref h_t_powerPlaces, .int (x1.2.2.2.2.2.2.2.2.1), .int (x1.2.2.2.2.2.2.2.2.2.1), .int (x1.2.2.2.2.2.2.2.2.2.2.1), .int (x1.2.2.2.2.2.2.2.2.2.2.2), .ref h_t_toldTree, .ref h_t_splitPlaces, .ref h_t_layers, .int t_isWhy, .ref h_t_paper, .int t_papered, .ref h_t_held, .ref h_t_numbers, .ref h_t_sizes, .ref h_t_heldLeaves, .ref h_t_items, .ref h_t_kept, .int t_isKept])), (h_t_tape, .inl (cI, 60, .inl a_t_tape)), (h_t_powerPlaces, .inl (cI, 8, .inl (x1.1))), (h_t_toldPowers, .inl (cI, 8, .inl (x1.2.1))), (h_t_splitPlaces, .inl (cI, 3, .inl (x1.2.2.1))), (h_t_toldTree, .inl (cI, 3, .inl (x1.2.2.2.1))), (h_t_before, .inl (cI, 16, .inl x5)), (h_t_powers, .inl (cI, 8, .inl vK89_115_0)), (h_t_tree, .inl (cI, 3, .inl a_t_tree)), (h_t_layers, .inl (cI, 6, .inl a_t_layers)), (h_t_behind, .inl (cI, 144, .inl a_t_behind)), (h_t_ahead, .inl (cI, 144, .inl a_t_ahead))] H := hP
  have hD : va_D A [(h_t, .inr (8, [.int (x1.2.2.2.2.2.2.1), .int (x1.2.2.2.2.2.2.2.1), .ref h_t_powers, .int (x1.2.2.2.2.2.2.2.2.2.1), .int t_splits, .ref h_t_tree, .ref h_t_ahead, .ref h_t_behind, .ref h_t_before, .int t_done, .int t_undone, .ref h_t_rows, .ref h_t_met, .ref h_t_metSizes, .int t_metMany, .int t_treesSeen, .ref h_t_chosen, .ref h_t_tape, .int (0 : Int32), .int (x1.2.2.2.2.1), .int (x1.2.2.2.2.2.1), .int (x1.2.2.2.2.2.2.1), .int (x1.2.2.2.2.2.2.2.1), .ref h_t_toldPowers, .ref h_t_powerPlaces, .int (x1.2.2.2.2.2.2.2.2.1), .int (x1.2.2.2.2.2.2.2.2.2.1), .int (x1.2.2.2.2.2.2.2.2.2.2.1), .int (x1.2.2.2.2.2.2.2.2.2.2.2), .ref h_t_toldTree, .ref h_t_splitPlaces, .ref h_t_layers, .int t_isWhy, .ref h_t_paper, .int t_papered, .ref h_t_held, .ref h_t_numbers, .ref h_t_sizes, .ref h_t_heldLeaves, .ref h_t_items, .ref h_t_kept, .int t_isKept])), (h_t_tape, .inl (cI, 60, .inl a_t_tape)), (h_t_powerPlaces, .inl (cI, 8, .inl (x1.1))), (h_t_toldPowers, .inl (cI, 8, .inl (x1.2.1))), (h_t_splitPlaces, .inl (cI, 3, .inl (x1.2.2.1))), (h_t_toldTree, .inl (cI, 3, .inl (x1.2.2.2.1))), (h_t_before, .inl (cI, 16, .inl x5)), (h_t_powers, .inl (cI, 8, .inl vK89_115_0)), (h_t_tree, .inl (cI, 3, .inl a_t_tree)), (h_t_layers, .inl (cI, 6, .inl a_t_layers)), (h_t_behind, .inl (cI, 144, .inl a_t_behind)), (h_t_ahead, .inl (cI, 144, .inl a_t_ahead))] := hD
  refine lv_aload_n hx hb dX9_read_130 rfl (lv_at hl 0 rfl) ?_
  refine lv_iconst (v := (0 : Int32)) hx hb dX9_read_131 (by decide) ?_
  refine va_put (D := G) (ci := 8) (v := .int (0 : Int32)) (ty := .int) (C := RX9) (T := TX9) (N := 42) hx hb hts hinX9 tyX9 tyX9_ok nmX9 hown hK hP hD hS 0 rfl rfl 4 (by decide) (hta _ mw_642) (fun _ h9 => h9) rfl (by decide +kernel) rfl rfl (Nat.le_of_ble_eq_true rfl) dX9_read_132 (fun H locs hP hD hS => ?_)
  have hP : va_P G vwCl [(h_t, .inr (8, [.int (x1.2.2.2.2.2.2.1), .int (x1.2.2.2.2.2.2.2.1), .ref h_t_powers, .int (x1.2.2.2.2.2.2.2.2.2.1), .int (0 : Int32), .ref h_t_tree, .ref h_t_ahead, .ref h_t_behind, .ref h_t_before, .int t_done, .int t_undone, .ref h_t_rows, .ref h_t_met, .ref h_t_metSizes, .int t_metMany, .int t_treesSeen, .ref h_t_chosen, .ref h_t_tape, .int (0 : Int32), .int (x1.2.2.2.2.1), .int (x1.2.2.2.2.2.1), .int (x1.2.2.2.2.2.2.1), .int (x1.2.2.2.2.2.2.2.1), .ref h_t_toldPowers, .ref h_t_powerPlaces, .int (x1.2.2.2.2.2.2.2.2.1), .int (x1.2.2.2.2.2.2.2.2.2.1), .int (x1.2.2.2.2.2.2.2.2.2.2.1), .int (x1.2.2.2.2.2.2.2.2.2.2.2), .ref h_t_toldTree, .ref h_t_splitPlaces, .ref h_t_layers, .int t_isWhy, .ref h_t_paper, .int t_papered, .ref h_t_held, .ref h_t_numbers, .ref h_t_sizes, .ref h_t_heldLeaves, .ref h_t_items, .ref h_t_kept, .int t_isKept])), (h_t_tape, .inl (cI, 60, .inl a_t_tape)), (h_t_powerPlaces, .inl (cI, 8, .inl (x1.1))), (h_t_toldPowers, .inl (cI, 8, .inl (x1.2.1))), (h_t_splitPlaces, .inl (cI, 3, .inl (x1.2.2.1))), (h_t_toldTree, .inl (cI, 3, .inl (x1.2.2.2.1))), (h_t_before, .inl (cI, 16, .inl x5)), (h_t_powers, .inl (cI, 8, .inl vK89_115_0)), (h_t_tree, .inl (cI, 3, .inl a_t_tree)), (h_t_layers, .inl (cI, 6, .inl a_t_layers)), (h_t_behind, .inl (cI, 144, .inl a_t_behind)), (h_t_ahead, .inl (cI, 144, .inl a_t_ahead))] H := hP
  have hD : va_D A [(h_t, .inr (8, [.int (x1.2.2.2.2.2.2.1), .int (x1.2.2.2.2.2.2.2.1), .ref h_t_powers, .int (x1.2.2.2.2.2.2.2.2.2.1), .int (0 : Int32), .ref h_t_tree, .ref h_t_ahead, .ref h_t_behind, .ref h_t_before, .int t_done, .int t_undone, .ref h_t_rows, .ref h_t_met, .ref h_t_metSizes, .int t_metMany, .int t_treesSeen, .ref h_t_chosen, .ref h_t_tape, .int (0 : Int32), .int (x1.2.2.2.2.1), .int (x1.2.2.2.2.2.1), .int (x1.2.2.2.2.2.2.1), .int (x1.2.2.2.2.2.2.2.1), .ref h_t_toldPowers, .ref h_t_powerPlaces, .int (x1.2.2.2.2.2.2.2.2.1), .int (x1.2.2.2.2.2.2.2.2.2.1), .int (x1.2.2.2.2.2.2.2.2.2.2.1), .int (x1.2.2.2.2.2.2.2.2.2.2.2), .ref h_t_toldTree, .ref h_t_splitPlaces, .ref h_t_layers, .int t_isWhy, .ref h_t_paper, .int t_papered, .ref h_t_held, .ref h_t_numbers, .ref h_t_sizes, .ref h_t_heldLeaves, .ref h_t_items, .ref h_t_kept, .int t_isKept])), (h_t_tape, .inl (cI, 60, .inl a_t_tape)), (h_t_powerPlaces, .inl (cI, 8, .inl (x1.1))), (h_t_toldPowers, .inl (cI, 8, .inl (x1.2.1))), (h_t_splitPlaces, .inl (cI, 3, .inl (x1.2.2.1))), (h_t_toldTree, .inl (cI, 3, .inl (x1.2.2.2.1))), (h_t_before, .inl (cI, 16, .inl x5)), (h_t_powers, .inl (cI, 8, .inl vK89_115_0)), (h_t_tree, .inl (cI, 3, .inl a_t_tree)), (h_t_layers, .inl (cI, 6, .inl a_t_layers)), (h_t_behind, .inl (cI, 144, .inl a_t_behind)), (h_t_ahead, .inl (cI, 144, .inl a_t_ahead))] := hD
  refine lv_iconst (v := (0 : Int32)) hx hb dX9_read_135 (by decide) ?_
  refine lv_istore_n (lv' := [(2, .int (0 : Int32)), (0, .ref h_t)]) hx hb dX9_read_136 rfl hl (by decide) rfl (fun ls hl => ?_)
  have hL137 : ∀ (n137 : Nat) (vL137_0 : Nat → Int32) (vL137_1 : Int32) (vL137_2 : Int32) (H : Heap) (locs : List Loc) (ls : Array Slot), va_P G vwCl [(h_t, .inr (8, [.int (x1.2.2.2.2.2.2.1), .int (x1.2.2.2.2.2.2.2.1), .ref h_t_powers, .int (x1.2.2.2.2.2.2.2.2.2.1), .int vL137_1, .ref h_t_tree, .ref h_t_ahead, .ref h_t_behind, .ref h_t_before, .int t_done, .int t_undone, .ref h_t_rows, .ref h_t_met, .ref h_t_metSizes, .int t_metMany, .int t_treesSeen, .ref h_t_chosen, .ref h_t_tape, .int (0 : Int32), .int (x1.2.2.2.2.1), .int (x1.2.2.2.2.2.1), .int (x1.2.2.2.2.2.2.1), .int (x1.2.2.2.2.2.2.2.1), .ref h_t_toldPowers, .ref h_t_powerPlaces, .int (x1.2.2.2.2.2.2.2.2.1), .int (x1.2.2.2.2.2.2.2.2.2.1), .int (x1.2.2.2.2.2.2.2.2.2.2.1), .int (x1.2.2.2.2.2.2.2.2.2.2.2), .ref h_t_toldTree, .ref h_t_splitPlaces, .ref h_t_layers, .int t_isWhy, .ref h_t_paper, .int t_papered, .ref h_t_held, .ref h_t_numbers, .ref h_t_sizes, .ref h_t_heldLeaves, .ref h_t_items, .ref h_t_kept, .int t_isKept])), (h_t_tape, .inl (cI, 60, .inl a_t_tape)), (h_t_powerPlaces, .inl (cI, 8, .inl (x1.1))), (h_t_toldPowers, .inl (cI, 8, .inl (x1.2.1))), (h_t_splitPlaces, .inl (cI, 3, .inl (x1.2.2.1))), (h_t_toldTree, .inl (cI, 3, .inl (x1.2.2.2.1))), (h_t_before, .inl (cI, 16, .inl x5)), (h_t_powers, .inl (cI, 8, .inl vK89_115_0)), (h_t_tree, .inl (cI, 3, .inl vL137_0)), (h_t_layers, .inl (cI, 6, .inl a_t_layers)), (h_t_behind, .inl (cI, 144, .inl a_t_behind)), (h_t_ahead, .inl (cI, 144, .inl a_t_ahead))] H → va_D A [(h_t, .inr (8, [.int (x1.2.2.2.2.2.2.1), .int (x1.2.2.2.2.2.2.2.1), .ref h_t_powers, .int (x1.2.2.2.2.2.2.2.2.2.1), .int vL137_1, .ref h_t_tree, .ref h_t_ahead, .ref h_t_behind, .ref h_t_before, .int t_done, .int t_undone, .ref h_t_rows, .ref h_t_met, .ref h_t_metSizes, .int t_metMany, .int t_treesSeen, .ref h_t_chosen, .ref h_t_tape, .int (0 : Int32), .int (x1.2.2.2.2.1), .int (x1.2.2.2.2.2.1), .int (x1.2.2.2.2.2.2.1), .int (x1.2.2.2.2.2.2.2.1), .ref h_t_toldPowers, .ref h_t_powerPlaces, .int (x1.2.2.2.2.2.2.2.2.1), .int (x1.2.2.2.2.2.2.2.2.2.1), .int (x1.2.2.2.2.2.2.2.2.2.2.1), .int (x1.2.2.2.2.2.2.2.2.2.2.2), .ref h_t_toldTree, .ref h_t_splitPlaces, .ref h_t_layers, .int t_isWhy, .ref h_t_paper, .int t_papered, .ref h_t_held, .ref h_t_numbers, .ref h_t_sizes, .ref h_t_heldLeaves, .ref h_t_items, .ref h_t_kept, .int t_isKept])), (h_t_tape, .inl (cI, 60, .inl a_t_tape)), (h_t_powerPlaces, .inl (cI, 8, .inl (x1.1))), (h_t_toldPowers, .inl (cI, 8, .inl (x1.2.1))), (h_t_splitPlaces, .inl (cI, 3, .inl (x1.2.2.1))), (h_t_toldTree, .inl (cI, 3, .inl (x1.2.2.2.1))), (h_t_before, .inl (cI, 16, .inl x5)), (h_t_powers, .inl (cI, 8, .inl vK89_115_0)), (h_t_tree, .inl (cI, 3, .inl vL137_0)), (h_t_layers, .inl (cI, 6, .inl a_t_layers)), (h_t_behind, .inl (cI, 144, .inl a_t_behind)), (h_t_ahead, .inl (cI, 144, .inl a_t_ahead))] → va_S A s.heap H locs → lv_has ls 3 [(0, .ref h_t), (2, .int vL137_2)] → wq3 (B_X9_read_137 x1 (K_X9_read_137_161 t_done t_undone t_isWhy a_t_layers a_t_behind a_t_ahead x1 x5 vK89_115_0)) n137 vL137_0 vL137_1 vL137_2 = some (r0, w0, w1, w2, w3, w4, w5, w6, w7, w8, w9, w10, w11, w12, w13, w14, w15, w16, w17, w18, w19, w20, w21, w22, w23, w24, w25) → W p l e (headSpec wsX9_read ({ frames := 5, cells := 0, slots := 0, locals := 108 })).room s m ([.ref h_t] : List Value).toArray below meth c H locs 0 0 (MQ below (va_Qi (fun r (_ : Unit) => r = r0 ∧ True) (fun _ t => va_P G vwCl [(h_t, .inr (8, [.int w10, .int w11, .ref h_t_powers, .int w22, .int w24, .ref h_t_tree, .ref h_t_ahead, .ref h_t_behind, .ref h_t_before, .int w25, .int w12, .ref h_t_rows, .ref h_t_met, .ref h_t_metSizes, .int t_metMany, .int t_treesSeen, .ref h_t_chosen, .ref h_t_tape, .int w13, .int w14, .int w15, .int w16, .int w17, .ref h_t_toldPowers, .ref h_t_powerPlaces, .int w18, .int w19, .int w20, .int w21, .ref h_t_toldTree, .ref h_t_splitPlaces, .ref h_t_layers, .int w23, .ref h_t_paper, .int t_papered, .ref h_t_held, .ref h_t_numbers, .ref h_t_sizes, .ref h_t_heldLeaves, .ref h_t_items, .ref h_t_kept, .int t_isKept])), (h_t_tape, .inl (cI, 60, .inl a_t_tape)), (h_t_powerPlaces, .inl (cI, 8, .inl w2)), (h_t_toldPowers, .inl (cI, 8, .inl w3)), (h_t_splitPlaces, .inl (cI, 3, .inl w4)), (h_t_toldTree, .inl (cI, 3, .inl w5)), (h_t_before, .inl (cI, 16, .inl w6)), (h_t_powers, .inl (cI, 8, .inl w7)), (h_t_tree, .inl (cI, 3, .inl w8)), (h_t_layers, .inl (cI, 6, .inl w9)), (h_t_behind, .inl (cI, 144, .inl w0)), (h_t_ahead, .inl (cI, 144, .inl w1))] t.heap) A) ([.ref h_t] : List Value).toArray s 0 0 A) (F0 m 137 ls []) := by
    intro n137
    induction n137 with
    | zero => intro vL137_0 vL137_1 vL137_2 H locs ls hP hD hS hl h; exact wq3_0 h
    | succ n137 ih137 =>
      intro vL137_0 vL137_1 vL137_2 H locs ls hP hD hS hl h
      have h := wq3_s h
      unfold B_X9_read_137 at h
      refine lv_iload_n hx hb dX9_read_137 rfl (lv_at hl 1 rfl) ?_
      refine lv_aload_n hx hb dX9_read_138 rfl (lv_at hl 0 rfl) ?_
      refine va_get (D := G) (ci := 8) (v := .int (x1.2.2.2.2.2.2.2.2.2.2.2)) (C := RX9) (T := TX9) (N := 42) hx hb hts hinX9 hown hK hP 0 rfl rfl 28 (by decide) (hta _ mw_825) (fun _ h9 => h9) rfl dX9_read_139 ?_
      refine lv_icmp_ge (tgt := 161) hx hb dX9_read_142 (by decide) (fun c9 => ?_) (fun c9 => ?_)
      · have h := it_p h c9
        exact tK_X9_read_137_161 hx hb hr hml hts hown hlocks hK hA vL137_0 vL137_1 _ _ _ hP hD hS (lv_sub hl [0] rfl) h
      have h := it_n h c9
      refine lv_aload_n hx hb dX9_read_145 rfl (lv_at hl 0 rfl) ?_
      refine lv_aload_n hx hb dX9_read_146 rfl (lv_at hl 0 rfl) ?_
      refine va_get (D := G) (ci := 8) (v := .ref h_t_toldTree) (C := RX9) (T := TX9) (N := 42) hx hb hts hinX9 hown hK hP 0 rfl rfl 29 (by decide) (hta _ mw_622) (fun _ h9 => h9) rfl dX9_read_147 ?_
      refine lv_iload_n hx hb dX9_read_150 rfl (lv_at hl 1 rfl) ?_
      obtain ⟨hn10, h⟩ := ck_e h
      refine va_iald hx hb hK hP 5 0 rfl rfl hn10 dX9_read_151 ?_
      obtain ⟨x11, hx11, h⟩ := bd_e h
      try dsimp only at h
      refine k_VvM (n := 1) (As := [.int ((x1.2.2.2.1) vL137_2.toNatClampNeg)]) (rest := []) hx hb hml hown hts (c_X9_comes l G cI cJ cD cH H.size h_t h_t_tree h_t_powers h_t_ahead h_t_behind h_t_before h_t_rows h_t_met h_t_metSizes h_t_chosen h_t_tape h_t_toldPowers h_t_powerPlaces h_t_toldTree h_t_splitPlaces h_t_layers h_t_paper h_t_held h_t_numbers h_t_sizes h_t_heldLeaves h_t_items h_t_kept (x1.2.2.2.2.2.2.1) (x1.2.2.2.2.2.2.2.1) (x1.2.2.2.2.2.2.2.2.2.1) vL137_1 t_done t_undone t_metMany t_treesSeen (0 : Int32) (x1.2.2.2.2.1) (x1.2.2.2.2.2.1) (x1.2.2.2.2.2.2.1) (x1.2.2.2.2.2.2.2.1) (x1.2.2.2.2.2.2.2.2.1) (x1.2.2.2.2.2.2.2.2.2.1) (x1.2.2.2.2.2.2.2.2.2.2.1) (x1.2.2.2.2.2.2.2.2.2.2.2) t_isWhy t_papered t_isKept vL137_0 ((x1.2.2.2.1) vL137_2.toNatClampNeg) (x11.1) (x11.2) hx11) gX9_read_X9_comes rfl rfl rfl (by decide +kernel) ⟨by first | exact Nat.le_of_ble_eq_true rfl | (simp only [headSpec]; omega), by first | exact Nat.le_of_ble_eq_true rfl | (simp only [headSpec]; omega)⟩ hK hP hD hS hA [0, 8] (by decide) rfl rfl (ci := 8) rfl rfl rfl rfl rfl hl.1 (Nat.le_of_ble_eq_true rfl) dX9_read_152 ⟨Nat.zero_le _, Nat.zero_le _⟩ [(h_t, .inr (8, [.int (x1.2.2.2.2.2.2.1), .int (x1.2.2.2.2.2.2.2.1), .ref h_t_powers, .int (x1.2.2.2.2.2.2.2.2.2.1), .int (x11.2), .ref h_t_tree, .ref h_t_ahead, .ref h_t_behind, .ref h_t_before, .int t_done, .int t_undone, .ref h_t_rows, .ref h_t_met, .ref h_t_metSizes, .int t_metMany, .int t_treesSeen, .ref h_t_chosen, .ref h_t_tape, .int (0 : Int32), .int (x1.2.2.2.2.1), .int (x1.2.2.2.2.2.1), .int (x1.2.2.2.2.2.2.1), .int (x1.2.2.2.2.2.2.2.1), .ref h_t_toldPowers, .ref h_t_powerPlaces, .int (x1.2.2.2.2.2.2.2.2.1), .int (x1.2.2.2.2.2.2.2.2.2.1), .int (x1.2.2.2.2.2.2.2.2.2.2.1), .int (x1.2.2.2.2.2.2.2.2.2.2.2), .ref h_t_toldTree, .ref h_t_splitPlaces, .ref h_t_layers, .int t_isWhy, .ref h_t_paper, .int t_papered, .ref h_t_held, .ref h_t_numbers, .ref h_t_sizes, .ref h_t_heldLeaves, .ref h_t_items, .ref h_t_kept, .int t_isKept])), (h_t_tape, .inl (cI, 60, .inl a_t_tape)), (h_t_powerPlaces, .inl (cI, 8, .inl (x1.1))), (h_t_toldPowers, .inl (cI, 8, .inl (x1.2.1))), (h_t_splitPlaces, .inl (cI, 3, .inl (x1.2.2.1))), (h_t_toldTree, .inl (cI, 3, .inl (x1.2.2.2.1))), (h_t_before, .inl (cI, 16, .inl x5)), (h_t_powers, .inl (cI, 8, .inl vK89_115_0)), (h_t_tree, .inl (cI, 3, .inl (x11.1))), (h_t_layers, .inl (cI, 6, .inl a_t_layers)), (h_t_behind, .inl (cI, 144, .inl a_t_behind)), (h_t_ahead, .inl (cI, 144, .inl a_t_ahead))] [1, 0, 0, 0, 0, 0, 0, 0, 2, 0, 0, 0] 2 (by decide +kernel) rfl rfl rfl (fun hp11 H locs hP hD hS => ?_)
      refine lv_iinc (v := (vL137_2 + (1 : Int32))) (lv' := [(2, .int (vL137_2 + (1 : Int32))), (0, .ref h_t)]) hx hb dX9_read_155 hl (k := 1) rfl (by first | rfl | decide) (by decide) rfl (fun ls hl => ?_)
      refine lv_goto (tgt := 137) hx hb dX9_read_158 (by decide) ?_
      exact ih137 (x11.1) (x11.2) (vL137_2 + (1 : Int32)) _ _ _ hP hD hS (lv_sub hl [1, 0] rfl) h
  exact hL137 FU a_t_tree (0 : Int32) (0 : Int32) _ _ _ hP hD hS (lv_sub hl [1, 0] rfl) h
set_option maxHeartbeats 4000000 in
set_option maxRecDepth 100000 in
theorem c_X9_read (l : Launch) (G : va_G) (cI cJ cD cH : ClassId) (sz : Nat) (h_t : Nat) (h_t_tape : Nat) (h_t_powerPlaces : Nat) (h_t_toldPowers : Nat) (h_t_splitPlaces : Nat) (h_t_toldTree : Nat) (h_t_before : Nat) (h_t_powers : Nat) (h_t_tree : Nat) (h_t_layers : Nat) (h_t_behind : Nat) (h_t_ahead : Nat) (h_t_rows : Nat) (h_t_met : Nat) (h_t_metSizes : Nat) (h_t_chosen : Nat) (h_t_paper : Nat) (h_t_held : Nat) (h_t_numbers : Nat) (h_t_sizes : Nat) (h_t_heldLeaves : Nat) (h_t_items : Nat) (h_t_kept : Nat) (t_genus : Int32) (t_marks : Int32) (t_leaves : Int32) (t_splits : Int32) (t_done : Int32) (t_undone : Int32) (t_metMany : Int32) (t_treesSeen : Int32) (t_taped : Int32) (t_place : Int32) (t_isWrong : Int32) (t_toldGenus : Int32) (t_toldMarks : Int32) (t_isTree : Int32) (t_toldLeaves : Int32) (t_leavesPlace : Int32) (t_toldSplits : Int32) (t_isWhy : Int32) (t_papered : Int32) (t_isKept : Int32) (a_t_tape : Nat → Int32) (a_t_powerPlaces : Nat → Int32) (a_t_toldPowers : Nat → Int32) (a_t_splitPlaces : Nat → Int32) (a_t_toldTree : Nat → Int32) (a_t_before : Nat → Int32) (a_t_powers : Nat → Int32) (a_t_tree : Nat → Int32) (a_t_layers : Nat → Int32) (a_t_behind : Nat → Int32) (a_t_ahead : Nat → Int32) (r0 : Int32) (w0 : Nat → Int32) (w1 : Nat → Int32) (w2 : Nat → Int32) (w3 : Nat → Int32) (w4 : Nat → Int32) (w5 : Nat → Int32) (w6 : Nat → Int32) (w7 : Nat → Int32) (w8 : Nat → Int32) (w9 : Nat → Int32) (w10 : Int32) (w11 : Int32) (w12 : Int32) (w13 : Int32) (w14 : Int32) (w15 : Int32) (w16 : Int32) (w17 : Int32) (w18 : Int32) (w19 : Int32) (w20 : Int32) (w21 : Int32) (w22 : Int32) (w23 : Int32) (w24 : Int32) (w25 : Int32) (hF : F_X9_read t_genus t_marks t_leaves t_splits t_done t_undone t_taped t_toldLeaves t_leavesPlace t_isWhy a_t_tape a_t_powerPlaces a_t_toldPowers a_t_splitPlaces a_t_toldTree a_t_before a_t_powers a_t_tree a_t_layers a_t_behind a_t_ahead = some (r0, w0, w1, w2, w3, w4, w5, w6, w7, w8, w9, w10, w11, w12, w13, w14, w15, w16, w17, w18, w19, w20, w21, w22, w23, w24, w25)) : Met l yX9_read wsX9_read ({ frames := 5, cells := 0, slots := 0, locals := 108 }) (k_pre G (k_T cI cJ cD cH) [(h_t, .inr (8, [.int t_genus, .int t_marks, .ref h_t_powers, .int t_leaves, .int t_splits, .ref h_t_tree, .ref h_t_ahead, .ref h_t_behind, .ref h_t_before, .int t_done, .int t_undone, .ref h_t_rows, .ref h_t_met, .ref h_t_metSizes, .int t_metMany, .int t_treesSeen, .ref h_t_chosen, .ref h_t_tape, .int t_taped, .int t_place, .int t_isWrong, .int t_toldGenus, .int t_toldMarks, .ref h_t_toldPowers, .ref h_t_powerPlaces, .int t_isTree, .int t_toldLeaves, .int t_leavesPlace, .int t_toldSplits, .ref h_t_toldTree, .ref h_t_splitPlaces, .ref h_t_layers, .int t_isWhy, .ref h_t_paper, .int t_papered, .ref h_t_held, .ref h_t_numbers, .ref h_t_sizes, .ref h_t_heldLeaves, .ref h_t_items, .ref h_t_kept, .int t_isKept])), (h_t_tape, .inl (cI, 60, .inl a_t_tape)), (h_t_powerPlaces, .inl (cI, 8, .inl a_t_powerPlaces)), (h_t_toldPowers, .inl (cI, 8, .inl a_t_toldPowers)), (h_t_splitPlaces, .inl (cI, 3, .inl a_t_splitPlaces)), (h_t_toldTree, .inl (cI, 3, .inl a_t_toldTree)), (h_t_before, .inl (cI, 16, .inl a_t_before)), (h_t_powers, .inl (cI, 8, .inl a_t_powers)), (h_t_tree, .inl (cI, 3, .inl a_t_tree)), (h_t_layers, .inl (cI, 6, .inl a_t_layers)), (h_t_behind, .inl (cI, 144, .inl a_t_behind)), (h_t_ahead, .inl (cI, 144, .inl a_t_ahead))] sz [.ref h_t]) (va_Qi (fun r (_ : Unit) => r = r0 ∧ True) (fun _ t => va_P G vwCl [(h_t, .inr (8, [.int w10, .int w11, .ref h_t_powers, .int w22, .int w24, .ref h_t_tree, .ref h_t_ahead, .ref h_t_behind, .ref h_t_before, .int w25, .int w12, .ref h_t_rows, .ref h_t_met, .ref h_t_metSizes, .int t_metMany, .int t_treesSeen, .ref h_t_chosen, .ref h_t_tape, .int w13, .int w14, .int w15, .int w16, .int w17, .ref h_t_toldPowers, .ref h_t_powerPlaces, .int w18, .int w19, .int w20, .int w21, .ref h_t_toldTree, .ref h_t_splitPlaces, .ref h_t_layers, .int w23, .ref h_t_paper, .int t_papered, .ref h_t_held, .ref h_t_numbers, .ref h_t_sizes, .ref h_t_heldLeaves, .ref h_t_items, .ref h_t_kept, .int t_isKept])), (h_t_tape, .inl (cI, 60, .inl a_t_tape)), (h_t_powerPlaces, .inl (cI, 8, .inl w2)), (h_t_toldPowers, .inl (cI, 8, .inl w3)), (h_t_splitPlaces, .inl (cI, 3, .inl w4)), (h_t_toldTree, .inl (cI, 3, .inl w5)), (h_t_before, .inl (cI, 16, .inl w6)), (h_t_powers, .inl (cI, 8, .inl w7)), (h_t_tree, .inl (cI, 3, .inl w8)), (h_t_layers, .inl (cI, 6, .inl w9)), (h_t_behind, .inl (cI, 144, .inl w0)), (h_t_ahead, .inl (cI, 144, .inl w1))] t.heap) (va_A [(h_t, .inr (8, [.int t_genus, .int t_marks, .ref h_t_powers, .int t_leaves, .int t_splits, .ref h_t_tree, .ref h_t_ahead, .ref h_t_behind, .ref h_t_before, .int t_done, .int t_undone, .ref h_t_rows, .ref h_t_met, .ref h_t_metSizes, .int t_metMany, .int t_treesSeen, .ref h_t_chosen, .ref h_t_tape, .int t_taped, .int t_place, .int t_isWrong, .int t_toldGenus, .int t_toldMarks, .ref h_t_toldPowers, .ref h_t_powerPlaces, .int t_isTree, .int t_toldLeaves, .int t_leavesPlace, .int t_toldSplits, .ref h_t_toldTree, .ref h_t_splitPlaces, .ref h_t_layers, .int t_isWhy, .ref h_t_paper, .int t_papered, .ref h_t_held, .ref h_t_numbers, .ref h_t_sizes, .ref h_t_heldLeaves, .ref h_t_items, .ref h_t_kept, .int t_isKept])), (h_t_tape, .inl (cI, 60, .inl a_t_tape)), (h_t_powerPlaces, .inl (cI, 8, .inl a_t_powerPlaces)), (h_t_toldPowers, .inl (cI, 8, .inl a_t_toldPowers)), (h_t_splitPlaces, .inl (cI, 3, .inl a_t_splitPlaces)), (h_t_toldTree, .inl (cI, 3, .inl a_t_toldTree)), (h_t_before, .inl (cI, 16, .inl a_t_before)), (h_t_powers, .inl (cI, 8, .inl a_t_powers)), (h_t_tree, .inl (cI, 3, .inl a_t_tree)), (h_t_layers, .inl (cI, 6, .inl a_t_layers)), (h_t_behind, .inl (cI, 144, .inl a_t_behind)), (h_t_ahead, .inl (cI, 144, .inl a_t_ahead))] sz)) 0 0 (va_A [(h_t, .inr (8, [.int t_genus, .int t_marks, .ref h_t_powers, .int t_leaves, .int t_splits, .ref h_t_tree, .ref h_t_ahead, .ref h_t_behind, .ref h_t_before, .int t_done, .int t_undone, .ref h_t_rows, .ref h_t_met, .ref h_t_metSizes, .int t_metMany, .int t_treesSeen, .ref h_t_chosen, .ref h_t_tape, .int t_taped, .int t_place, .int t_isWrong, .int t_toldGenus, .int t_toldMarks, .ref h_t_toldPowers, .ref h_t_powerPlaces, .int t_isTree, .int t_toldLeaves, .int t_leavesPlace, .int t_toldSplits, .ref h_t_toldTree, .ref h_t_splitPlaces, .ref h_t_layers, .int t_isWhy, .ref h_t_paper, .int t_papered, .ref h_t_held, .ref h_t_numbers, .ref h_t_sizes, .ref h_t_heldLeaves, .ref h_t_items, .ref h_t_kept, .int t_isKept])), (h_t_tape, .inl (cI, 60, .inl a_t_tape)), (h_t_powerPlaces, .inl (cI, 8, .inl a_t_powerPlaces)), (h_t_toldPowers, .inl (cI, 8, .inl a_t_toldPowers)), (h_t_splitPlaces, .inl (cI, 3, .inl a_t_splitPlaces)), (h_t_toldTree, .inl (cI, 3, .inl a_t_toldTree)), (h_t_before, .inl (cI, 16, .inl a_t_before)), (h_t_powers, .inl (cI, 8, .inl a_t_powers)), (h_t_tree, .inl (cI, 3, .inl a_t_tree)), (h_t_layers, .inl (cI, 6, .inl a_t_layers)), (h_t_behind, .inl (cI, 144, .inl a_t_behind)), (h_t_ahead, .inl (cI, 144, .inl a_t_ahead))] sz) := by
  refine Met.ofW (cc := cX9_read) (maxL := 3) (ret := (some .int)) (by decide) rfl ?_
  intro p e s m args below meth c s₁ B hml hv
  obtain ⟨rfl, hsz, hP, hK, hD0⟩ := hv
  have hx := B.exec
  have hb := B.bytes
  have hr := B.returns
  have hts := atoms_spec (ws := wsX9_read) B.pre
  have hta : ∀ w ∈ wA, w.before ([.ref h_t] : List Value).toArray s = true := hta_of hts
  have hown : s.vm.findClass RX9 = some m.cls := findClass_of_methodNamed B.named
  have hlocks := B.notSynchronized
  subst hsz
  have hD := hD0.self (sz := s.heap.size)
  generalize hAe : va_A [(h_t, .inr (8, [.int t_genus, .int t_marks, .ref h_t_powers, .int t_leaves, .int t_splits, .ref h_t_tree, .ref h_t_ahead, .ref h_t_behind, .ref h_t_before, .int t_done, .int t_undone, .ref h_t_rows, .ref h_t_met, .ref h_t_metSizes, .int t_metMany, .int t_treesSeen, .ref h_t_chosen, .ref h_t_tape, .int t_taped, .int t_place, .int t_isWrong, .int t_toldGenus, .int t_toldMarks, .ref h_t_toldPowers, .ref h_t_powerPlaces, .int t_isTree, .int t_toldLeaves, .int t_leavesPlace, .int t_toldSplits, .ref h_t_toldTree, .ref h_t_splitPlaces, .ref h_t_layers, .int t_isWhy, .ref h_t_paper, .int t_papered, .ref h_t_held, .ref h_t_numbers, .ref h_t_sizes, .ref h_t_heldLeaves, .ref h_t_items, .ref h_t_kept, .int t_isKept])), (h_t_tape, .inl (cI, 60, .inl a_t_tape)), (h_t_powerPlaces, .inl (cI, 8, .inl a_t_powerPlaces)), (h_t_toldPowers, .inl (cI, 8, .inl a_t_toldPowers)), (h_t_splitPlaces, .inl (cI, 3, .inl a_t_splitPlaces)), (h_t_toldTree, .inl (cI, 3, .inl a_t_toldTree)), (h_t_before, .inl (cI, 16, .inl a_t_before)), (h_t_powers, .inl (cI, 8, .inl a_t_powers)), (h_t_tree, .inl (cI, 3, .inl a_t_tree)), (h_t_layers, .inl (cI, 6, .inl a_t_layers)), (h_t_behind, .inl (cI, 144, .inl a_t_behind)), (h_t_ahead, .inl (cI, 144, .inl a_t_ahead))] s.heap.size = A at hD ⊢
  have hA : ∀ q : Nat, s.heap.size ≤ q → A q := fun q h => by rw [← hAe]; exact Or.inr h
  have hS : va_S A s.heap s.heap [] := va_S.rf
  have hl := lv_entry ([.ref h_t]) (n := 3) (Nat.le_of_ble_eq_true rfl)
  rw [lg_entry_eq]
  generalize (lg_sl ([.ref h_t]) ++ List.replicate (3 - (lg_sl ([.ref h_t])).length) Slot.unset).toArray = ls at hl ⊢
  have hl : lv_has ls 3 [(0, .ref h_t)] := hl
  have hinX9 : ∀ w ∈ wsX90, w ∈ wsX9_read := hin_of in_X9
  have h := hF
  unfold F_X9_read at h
  refine lv_aload_n hx hb dX9_read_0 rfl (lv_at hl 0 rfl) ?_
  obtain ⟨x1, hx1, h⟩ := bd_e h
  try dsimp only at h
  refine k_VvM (n := 0) (As := []) (rest := []) hx hb hml hown hts (c_X9_form l G cI cJ cD cH s.heap.size h_t h_t_tape h_t_powerPlaces h_t_toldPowers h_t_splitPlaces h_t_toldTree h_t_powers h_t_tree h_t_ahead h_t_behind h_t_before h_t_rows h_t_met h_t_metSizes h_t_chosen h_t_layers h_t_paper h_t_held h_t_numbers h_t_sizes h_t_heldLeaves h_t_items h_t_kept t_genus t_marks t_leaves t_splits t_done t_undone t_metMany t_treesSeen t_taped t_place t_isWrong t_toldGenus t_toldMarks t_isTree t_toldLeaves t_leavesPlace t_toldSplits t_isWhy t_papered t_isKept a_t_tape a_t_powerPlaces a_t_toldPowers a_t_splitPlaces a_t_toldTree (x1.1) (x1.2.1) (x1.2.2.1) (x1.2.2.2.1) (x1.2.2.2.2.1) (x1.2.2.2.2.2.1) (x1.2.2.2.2.2.2.1) (x1.2.2.2.2.2.2.2.1) (x1.2.2.2.2.2.2.2.2.1) (x1.2.2.2.2.2.2.2.2.2.1) (x1.2.2.2.2.2.2.2.2.2.2.1) (x1.2.2.2.2.2.2.2.2.2.2.2) hx1) gX9_read_X9_form rfl rfl rfl (by decide +kernel) ⟨by first | exact Nat.le_of_ble_eq_true rfl | (simp only [headSpec]; omega), by first | exact Nat.le_of_ble_eq_true rfl | (simp only [headSpec]; omega)⟩ hK hP hD hS hA [0, 1, 2, 3, 4, 5] (by decide) rfl rfl (ci := 8) rfl rfl rfl rfl rfl hl.1 (Nat.le_of_ble_eq_true rfl) dX9_read_1 ⟨Nat.zero_le _, Nat.zero_le _⟩ [(h_t, .inr (8, [.int t_genus, .int t_marks, .ref h_t_powers, .int t_leaves, .int t_splits, .ref h_t_tree, .ref h_t_ahead, .ref h_t_behind, .ref h_t_before, .int t_done, .int t_undone, .ref h_t_rows, .ref h_t_met, .ref h_t_metSizes, .int t_metMany, .int t_treesSeen, .ref h_t_chosen, .ref h_t_tape, .int t_taped, .int (x1.2.2.2.2.1), .int (x1.2.2.2.2.2.1), .int (x1.2.2.2.2.2.2.1), .int (x1.2.2.2.2.2.2.2.1), .ref h_t_toldPowers, .ref h_t_powerPlaces, .int (x1.2.2.2.2.2.2.2.2.1), .int (x1.2.2.2.2.2.2.2.2.2.1), .int (x1.2.2.2.2.2.2.2.2.2.2.1), .int (x1.2.2.2.2.2.2.2.2.2.2.2), .ref h_t_toldTree, .ref h_t_splitPlaces, .ref h_t_layers, .int t_isWhy, .ref h_t_paper, .int t_papered, .ref h_t_held, .ref h_t_numbers, .ref h_t_sizes, .ref h_t_heldLeaves, .ref h_t_items, .ref h_t_kept, .int t_isKept])), (h_t_tape, .inl (cI, 60, .inl a_t_tape)), (h_t_powerPlaces, .inl (cI, 8, .inl (x1.1))), (h_t_toldPowers, .inl (cI, 8, .inl (x1.2.1))), (h_t_splitPlaces, .inl (cI, 3, .inl (x1.2.2.1))), (h_t_toldTree, .inl (cI, 3, .inl (x1.2.2.2.1))), (h_t_before, .inl (cI, 16, .inl a_t_before)), (h_t_powers, .inl (cI, 8, .inl a_t_powers)), (h_t_tree, .inl (cI, 3, .inl a_t_tree)), (h_t_layers, .inl (cI, 6, .inl a_t_layers)), (h_t_behind, .inl (cI, 144, .inl a_t_behind)), (h_t_ahead, .inl (cI, 144, .inl a_t_ahead))] [1, 2, 3, 4, 5, 6, 0, 0, 0, 0, 0, 0] 6 (by decide +kernel) rfl rfl rfl (fun hp1 H locs hP hD hS => ?_)
  refine lv_aload_n hx hb dX9_read_4 rfl (lv_at hl 0 rfl) ?_
  refine va_get (D := G) (ci := 8) (v := .int (x1.2.2.2.2.2.1)) (C := RX9) (T := TX9) (N := 42) hx hb hts hinX9 hown hK hP 0 rfl rfl 20 (by decide) (hta _ mw_814) (fun _ h9 => h9) rfl dX9_read_5 ?_
  refine lv_if_eq (tgt := 35) hx hb dX9_read_8 (by decide) (fun c2 => ?_) (fun c2 => ?_)
  rotate_left
  · have h := it_n h c2
    refine lv_aload_n hx hb dX9_read_11 rfl (lv_at hl 0 rfl) ?_
    refine lv_bipush (v := (6 : Int32)) hx hb dX9_read_12 (by decide) ?_
    refine lv_aload_n hx hb dX9_read_14 rfl (lv_at hl 0 rfl) ?_
    refine va_get (D := G) (ci := 8) (v := .int (x1.2.2.2.2.1)) (C := RX9) (T := TX9) (N := 42) hx hb hts hinX9 hown hK hP 0 rfl rfl 19 (by decide) (hta _ mw_806) (fun _ h9 => h9) rfl dX9_read_15 ?_
    obtain ⟨x16, hx16, h⟩ := bd_e h
    try dsimp only at h
    refine k_VvM (n := 2) (As := [.int (6 : Int32), .int (x1.2.2.2.2.1)]) (rest := []) hx hb hml hown hts (c_X9_because l G cI cJ cD cH H.size h_t h_t_tape h_t_layers h_t_powers h_t_tree h_t_ahead h_t_behind h_t_before h_t_rows h_t_met h_t_metSizes h_t_chosen h_t_toldPowers h_t_powerPlaces h_t_toldTree h_t_splitPlaces h_t_paper h_t_held h_t_numbers h_t_sizes h_t_heldLeaves h_t_items h_t_kept t_genus t_marks t_leaves t_splits t_done t_undone t_metMany t_treesSeen t_taped (x1.2.2.2.2.1) (x1.2.2.2.2.2.1) (x1.2.2.2.2.2.2.1) (x1.2.2.2.2.2.2.2.1) (x1.2.2.2.2.2.2.2.2.1) (x1.2.2.2.2.2.2.2.2.2.1) (x1.2.2.2.2.2.2.2.2.2.2.1) (x1.2.2.2.2.2.2.2.2.2.2.2) t_isWhy t_papered t_isKept a_t_tape a_t_layers (6 : Int32) (x1.2.2.2.2.1) (x16.1) (x16.2) hx16) gX9_read_X9_because rfl rfl rfl (by decide +kernel) ⟨by first | exact Nat.le_of_ble_eq_true rfl | (simp only [headSpec]; omega), by first | exact Nat.le_of_ble_eq_true rfl | (simp only [headSpec]; omega)⟩ hK hP hD hS hA [0, 1, 9] (by decide) rfl rfl (ci := 8) rfl rfl rfl rfl rfl hl.1 (Nat.le_of_ble_eq_true rfl) dX9_read_18 ⟨Nat.zero_le _, Nat.zero_le _⟩ [(h_t, .inr (8, [.int t_genus, .int t_marks, .ref h_t_powers, .int t_leaves, .int t_splits, .ref h_t_tree, .ref h_t_ahead, .ref h_t_behind, .ref h_t_before, .int t_done, .int t_undone, .ref h_t_rows, .ref h_t_met, .ref h_t_metSizes, .int t_metMany, .int t_treesSeen, .ref h_t_chosen, .ref h_t_tape, .int t_taped, .int (x1.2.2.2.2.1), .int (x1.2.2.2.2.2.1), .int (x1.2.2.2.2.2.2.1), .int (x1.2.2.2.2.2.2.2.1), .ref h_t_toldPowers, .ref h_t_powerPlaces, .int (x1.2.2.2.2.2.2.2.2.1), .int (x1.2.2.2.2.2.2.2.2.2.1), .int (x1.2.2.2.2.2.2.2.2.2.2.1), .int (x1.2.2.2.2.2.2.2.2.2.2.2), .ref h_t_toldTree, .ref h_t_splitPlaces, .ref h_t_layers, .int (x16.2), .ref h_t_paper, .int t_papered, .ref h_t_held, .ref h_t_numbers, .ref h_t_sizes, .ref h_t_heldLeaves, .ref h_t_items, .ref h_t_kept, .int t_isKept])), (h_t_tape, .inl (cI, 60, .inl a_t_tape)), (h_t_powerPlaces, .inl (cI, 8, .inl (x1.1))), (h_t_toldPowers, .inl (cI, 8, .inl (x1.2.1))), (h_t_splitPlaces, .inl (cI, 3, .inl (x1.2.2.1))), (h_t_toldTree, .inl (cI, 3, .inl (x1.2.2.2.1))), (h_t_before, .inl (cI, 16, .inl a_t_before)), (h_t_powers, .inl (cI, 8, .inl a_t_powers)), (h_t_tree, .inl (cI, 3, .inl a_t_tree)), (h_t_layers, .inl (cI, 6, .inl (x16.1))), (h_t_behind, .inl (cI, 144, .inl a_t_behind)), (h_t_ahead, .inl (cI, 144, .inl a_t_ahead))] [1, 2, 0, 0, 0, 0, 0, 0, 0, 3, 0, 0] 3 (by decide +kernel) rfl rfl rfl (fun hp16 H locs hP hD hS => ?_)
    refine lv_aload_n hx hb dX9_read_21 rfl (lv_at hl 0 rfl) ?_
    refine lv_iconst (v := (0 : Int32)) hx hb dX9_read_22 (by decide) ?_
    refine va_put (D := G) (ci := 8) (v := .int (0 : Int32)) (ty := .int) (C := RX9) (T := TX9) (N := 42) hx hb hts hinX9 tyX9 tyX9_ok nmX9 hown hK hP hD hS 0 rfl rfl 18 (by decide) (hta _ mw_803) (fun _ h9 => h9) rfl (by decide +kernel) rfl rfl (Nat.le_of_ble_eq_true rfl) dX9_read_23 (fun H locs hP hD hS => ?_)
    have hP : va_P G vwCl [(h_t, .inr (8, [.int t_genus, .int t_marks, .ref h_t_powers, .int t_leaves, .int t_splits, .ref h_t_tree, .ref h_t_ahead, .ref h_t_behind, .ref h_t_before, .int t_done, .int t_undone, .ref h_t_rows, .ref h_t_met, .ref h_t_metSizes, .int t_metMany, .int t_treesSeen, .ref h_t_chosen, .ref h_t_tape, .int (0 : Int32), .int (x1.2.2.2.2.1), .int (x1.2.2.2.2.2.1), .int (x1.2.2.2.2.2.2.1), .int (x1.2.2.2.2.2.2.2.1), .ref h_t_toldPowers, .ref h_t_powerPlaces, .int (x1.2.2.2.2.2.2.2.2.1), .int (x1.2.2.2.2.2.2.2.2.2.1), .int (x1.2.2.2.2.2.2.2.2.2.2.1), .int (x1.2.2.2.2.2.2.2.2.2.2.2), .ref h_t_toldTree, .ref h_t_splitPlaces, .ref h_t_layers, .int (x16.2), .ref h_t_paper, .int t_papered, .ref h_t_held, .ref h_t_numbers, .ref h_t_sizes, .ref h_t_heldLeaves, .ref h_t_items, .ref h_t_kept, .int t_isKept])), (h_t_tape, .inl (cI, 60, .inl a_t_tape)), (h_t_powerPlaces, .inl (cI, 8, .inl (x1.1))), (h_t_toldPowers, .inl (cI, 8, .inl (x1.2.1))), (h_t_splitPlaces, .inl (cI, 3, .inl (x1.2.2.1))), (h_t_toldTree, .inl (cI, 3, .inl (x1.2.2.2.1))), (h_t_before, .inl (cI, 16, .inl a_t_before)), (h_t_powers, .inl (cI, 8, .inl a_t_powers)), (h_t_tree, .inl (cI, 3, .inl a_t_tree)), (h_t_layers, .inl (cI, 6, .inl (x16.1))), (h_t_behind, .inl (cI, 144, .inl a_t_behind)), (h_t_ahead, .inl (cI, 144, .inl a_t_ahead))] H := hP
    have hD : va_D A [(h_t, .inr (8, [.int t_genus, .int t_marks, .ref h_t_powers, .int t_leaves, .int t_splits, .ref h_t_tree, .ref h_t_ahead, .ref h_t_behind, .ref h_t_before, .int t_done, .int t_undone, .ref h_t_rows, .ref h_t_met, .ref h_t_metSizes, .int t_metMany, .int t_treesSeen, .ref h_t_chosen, .ref h_t_tape, .int (0 : Int32), .int (x1.2.2.2.2.1), .int (x1.2.2.2.2.2.1), .int (x1.2.2.2.2.2.2.1), .int (x1.2.2.2.2.2.2.2.1), .ref h_t_toldPowers, .ref h_t_powerPlaces, .int (x1.2.2.2.2.2.2.2.2.1), .int (x1.2.2.2.2.2.2.2.2.2.1), .int (x1.2.2.2.2.2.2.2.2.2.2.1), .int (x1.2.2.2.2.2.2.2.2.2.2.2), .ref h_t_toldTree, .ref h_t_splitPlaces, .ref h_t_layers, .int (x16.2), .ref h_t_paper, .int t_papered, .ref h_t_held, .ref h_t_numbers, .ref h_t_sizes, .ref h_t_heldLeaves, .ref h_t_items, .ref h_t_kept, .int t_isKept])), (h_t_tape, .inl (cI, 60, .inl a_t_tape)), (h_t_powerPlaces, .inl (cI, 8, .inl (x1.1))), (h_t_toldPowers, .inl (cI, 8, .inl (x1.2.1))), (h_t_splitPlaces, .inl (cI, 3, .inl (x1.2.2.1))), (h_t_toldTree, .inl (cI, 3, .inl (x1.2.2.2.1))), (h_t_before, .inl (cI, 16, .inl a_t_before)), (h_t_powers, .inl (cI, 8, .inl a_t_powers)), (h_t_tree, .inl (cI, 3, .inl a_t_tree)), (h_t_layers, .inl (cI, 6, .inl (x16.1))), (h_t_behind, .inl (cI, 144, .inl a_t_behind)), (h_t_ahead, .inl (cI, 144, .inl a_t_ahead))] := hD
    refine lv_sipush (v := (-1000 : Int32)) hx hb dX9_read_26 (by decide) ?_
    refine lv_aload_n hx hb dX9_read_29 rfl (lv_at hl 0 rfl) ?_
    refine va_get (D := G) (ci := 8) (v := .int (x1.2.2.2.2.1)) (C := RX9) (T := TX9) (N := 42) hx hb hts hinX9 hown hK hP 0 rfl rfl 19 (by decide) (hta _ mw_806) (fun _ h9 => h9) rfl dX9_read_30 ?_
    refine lv_isub hx hb dX9_read_33 ?_
    have h9 := Option.some.inj h
    have e9 : ((-1000 : Int32) - (x1.2.2.2.2.1)) = r0 := congrArg (fun z9 => z9.1) h9
    rw [← e9]
    have e9 : a_t_behind = w0 := congrArg (fun z9 => z9.2.1) h9
    rw [← e9]
    have e9 : a_t_ahead = w1 := congrArg (fun z9 => z9.2.2.1) h9
    rw [← e9]
    have e9 : (x1.1) = w2 := congrArg (fun z9 => z9.2.2.2.1) h9
    rw [← e9]
    have e9 : (x1.2.1) = w3 := congrArg (fun z9 => z9.2.2.2.2.1) h9
    rw [← e9]
    have e9 : (x1.2.2.1) = w4 := congrArg (fun z9 => z9.2.2.2.2.2.1) h9
    rw [← e9]
    have e9 : (x1.2.2.2.1) = w5 := congrArg (fun z9 => z9.2.2.2.2.2.2.1) h9
    rw [← e9]
    have e9 : a_t_before = w6 := congrArg (fun z9 => z9.2.2.2.2.2.2.2.1) h9
    rw [← e9]
    have e9 : a_t_powers = w7 := congrArg (fun z9 => z9.2.2.2.2.2.2.2.2.1) h9
    rw [← e9]
    have e9 : a_t_tree = w8 := congrArg (fun z9 => z9.2.2.2.2.2.2.2.2.2.1) h9
    rw [← e9]
    have e9 : (x16.1) = w9 := congrArg (fun z9 => z9.2.2.2.2.2.2.2.2.2.2.1) h9
    rw [← e9]
    have e9 : t_genus = w10 := congrArg (fun z9 => z9.2.2.2.2.2.2.2.2.2.2.2.1) h9
    rw [← e9]
    have e9 : t_marks = w11 := congrArg (fun z9 => z9.2.2.2.2.2.2.2.2.2.2.2.2.1) h9
    rw [← e9]
    have e9 : t_undone = w12 := congrArg (fun z9 => z9.2.2.2.2.2.2.2.2.2.2.2.2.2.1) h9
    rw [← e9]
    have e9 : (0 : Int32) = w13 := congrArg (fun z9 => z9.2.2.2.2.2.2.2.2.2.2.2.2.2.2.1) h9
    rw [← e9]
    have e9 : (x1.2.2.2.2.1) = w14 := congrArg (fun z9 => z9.2.2.2.2.2.2.2.2.2.2.2.2.2.2.2.1) h9
    rw [← e9]
    have e9 : (x1.2.2.2.2.2.1) = w15 := congrArg (fun z9 => z9.2.2.2.2.2.2.2.2.2.2.2.2.2.2.2.2.1) h9
    rw [← e9]
    have e9 : (x1.2.2.2.2.2.2.1) = w16 := congrArg (fun z9 => z9.2.2.2.2.2.2.2.2.2.2.2.2.2.2.2.2.2.1) h9
    rw [← e9]
    have e9 : (x1.2.2.2.2.2.2.2.1) = w17 := congrArg (fun z9 => z9.2.2.2.2.2.2.2.2.2.2.2.2.2.2.2.2.2.2.1) h9
    rw [← e9]
    have e9 : (x1.2.2.2.2.2.2.2.2.1) = w18 := congrArg (fun z9 => z9.2.2.2.2.2.2.2.2.2.2.2.2.2.2.2.2.2.2.2.1) h9
    rw [← e9]
    have e9 : (x1.2.2.2.2.2.2.2.2.2.1) = w19 := congrArg (fun z9 => z9.2.2.2.2.2.2.2.2.2.2.2.2.2.2.2.2.2.2.2.2.1) h9
    rw [← e9]
    have e9 : (x1.2.2.2.2.2.2.2.2.2.2.1) = w20 := congrArg (fun z9 => z9.2.2.2.2.2.2.2.2.2.2.2.2.2.2.2.2.2.2.2.2.2.1) h9
    rw [← e9]
    have e9 : (x1.2.2.2.2.2.2.2.2.2.2.2) = w21 := congrArg (fun z9 => z9.2.2.2.2.2.2.2.2.2.2.2.2.2.2.2.2.2.2.2.2.2.2.1) h9
    rw [← e9]
    have e9 : t_leaves = w22 := congrArg (fun z9 => z9.2.2.2.2.2.2.2.2.2.2.2.2.2.2.2.2.2.2.2.2.2.2.2.1) h9
    rw [← e9]
    have e9 : (x16.2) = w23 := congrArg (fun z9 => z9.2.2.2.2.2.2.2.2.2.2.2.2.2.2.2.2.2.2.2.2.2.2.2.2.1) h9
    rw [← e9]
    have e9 : t_splits = w24 := congrArg (fun z9 => z9.2.2.2.2.2.2.2.2.2.2.2.2.2.2.2.2.2.2.2.2.2.2.2.2.2.1) h9
    rw [← e9]
    have e9 : t_done = w25 := congrArg (fun z9 => z9.2.2.2.2.2.2.2.2.2.2.2.2.2.2.2.2.2.2.2.2.2.2.2.2.2.2) h9
    rw [← e9]
    exact k_iret hx hb hr hlocks hP hS rfl dX9_read_34
  have h := it_p h c2
  refine lv_aload_n hx hb dX9_read_35 rfl (lv_at hl 0 rfl) ?_
  obtain ⟨x3, hx3, h⟩ := bd_e h
  try dsimp only at h
  refine k_ViU (n := 0) (As := []) (rest := []) hx hb hml hown hts (c_X9_wrongFigures l G cI cJ cD cH H.size h_t h_t_toldPowers h_t_powerPlaces h_t_toldTree h_t_splitPlaces h_t_powers h_t_tree h_t_ahead h_t_behind h_t_before h_t_rows h_t_met h_t_metSizes h_t_chosen h_t_tape h_t_layers h_t_paper h_t_held h_t_numbers h_t_sizes h_t_heldLeaves h_t_items h_t_kept t_genus t_marks t_leaves t_splits t_done t_undone t_metMany t_treesSeen t_taped (x1.2.2.2.2.1) (x1.2.2.2.2.2.1) (x1.2.2.2.2.2.2.1) (x1.2.2.2.2.2.2.2.1) (x1.2.2.2.2.2.2.2.2.1) (x1.2.2.2.2.2.2.2.2.2.1) (x1.2.2.2.2.2.2.2.2.2.2.1) (x1.2.2.2.2.2.2.2.2.2.2.2) t_isWhy t_papered t_isKept (x1.2.1) (x1.1) (x1.2.2.2.1) (x1.2.2.1) x3 hx3) gX9_read_X9_wrongFigures rfl rfl rfl (by decide +kernel) ⟨by first | exact Nat.le_of_ble_eq_true rfl | (simp only [headSpec]; omega), by first | exact Nat.le_of_ble_eq_true rfl | (simp only [headSpec]; omega)⟩ hK hP hD hS hA [0, 3, 2, 5, 4] (by decide) rfl (ci := 8) rfl rfl rfl rfl rfl hl.1 (Nat.le_of_ble_eq_true rfl) dX9_read_36 ⟨Nat.zero_le _, Nat.zero_le _⟩ (fun hp3 H locs hP hS => ?_)
  refine lv_istore_n (lv' := [(1, .int x3), (0, .ref h_t)]) hx hb dX9_read_39 rfl hl (by decide) rfl (fun ls hl => ?_)
  refine lv_iload_n hx hb dX9_read_40 rfl (lv_at hl 0 rfl) ?_
  refine lv_if_lt (tgt := 62) hx hb dX9_read_41 (by decide) (fun c4 => ?_) (fun c4 => ?_)
  · have h := it_p h c4
    refine lv_aload_n hx hb dX9_read_62 rfl (lv_at hl 1 rfl) ?_
    refine lv_iconst (v := (0 : Int32)) hx hb dX9_read_63 (by decide) ?_
    refine va_put (D := G) (ci := 8) (v := .int (0 : Int32)) (ty := .int) (C := RX9) (T := TX9) (N := 42) hx hb hts hinX9 tyX9 tyX9_ok nmX9 hown hK hP hD hS 0 rfl rfl 18 (by decide) (hta _ mw_803) (fun _ h9 => h9) rfl (by decide +kernel) rfl rfl (Nat.le_of_ble_eq_true rfl) dX9_read_64 (fun H locs hP hD hS => ?_)
    have hP : va_P G vwCl [(h_t, .inr (8, [.int t_genus, .int t_marks, .ref h_t_powers, .int t_leaves, .int t_splits, .ref h_t_tree, .ref h_t_ahead, .ref h_t_behind, .ref h_t_before, .int t_done, .int t_undone, .ref h_t_rows, .ref h_t_met, .ref h_t_metSizes, .int t_metMany, .int t_treesSeen, .ref h_t_chosen, .ref h_t_tape, .int (0 : Int32), .int (x1.2.2.2.2.1), .int (x1.2.2.2.2.2.1), .int (x1.2.2.2.2.2.2.1), .int (x1.2.2.2.2.2.2.2.1), .ref h_t_toldPowers, .ref h_t_powerPlaces, .int (x1.2.2.2.2.2.2.2.2.1), .int (x1.2.2.2.2.2.2.2.2.2.1), .int (x1.2.2.2.2.2.2.2.2.2.2.1), .int (x1.2.2.2.2.2.2.2.2.2.2.2), .ref h_t_toldTree, .ref h_t_splitPlaces, .ref h_t_layers, .int t_isWhy, .ref h_t_paper, .int t_papered, .ref h_t_held, .ref h_t_numbers, .ref h_t_sizes, .ref h_t_heldLeaves, .ref h_t_items, .ref h_t_kept, .int t_isKept])), (h_t_tape, .inl (cI, 60, .inl a_t_tape)), (h_t_powerPlaces, .inl (cI, 8, .inl (x1.1))), (h_t_toldPowers, .inl (cI, 8, .inl (x1.2.1))), (h_t_splitPlaces, .inl (cI, 3, .inl (x1.2.2.1))), (h_t_toldTree, .inl (cI, 3, .inl (x1.2.2.2.1))), (h_t_before, .inl (cI, 16, .inl a_t_before)), (h_t_powers, .inl (cI, 8, .inl a_t_powers)), (h_t_tree, .inl (cI, 3, .inl a_t_tree)), (h_t_layers, .inl (cI, 6, .inl a_t_layers)), (h_t_behind, .inl (cI, 144, .inl a_t_behind)), (h_t_ahead, .inl (cI, 144, .inl a_t_ahead))] H := hP
    have hD : va_D A [(h_t, .inr (8, [.int t_genus, .int t_marks, .ref h_t_powers, .int t_leaves, .int t_splits, .ref h_t_tree, .ref h_t_ahead, .ref h_t_behind, .ref h_t_before, .int t_done, .int t_undone, .ref h_t_rows, .ref h_t_met, .ref h_t_metSizes, .int t_metMany, .int t_treesSeen, .ref h_t_chosen, .ref h_t_tape, .int (0 : Int32), .int (x1.2.2.2.2.1), .int (x1.2.2.2.2.2.1), .int (x1.2.2.2.2.2.2.1), .int (x1.2.2.2.2.2.2.2.1), .ref h_t_toldPowers, .ref h_t_powerPlaces, .int (x1.2.2.2.2.2.2.2.2.1), .int (x1.2.2.2.2.2.2.2.2.2.1), .int (x1.2.2.2.2.2.2.2.2.2.2.1), .int (x1.2.2.2.2.2.2.2.2.2.2.2), .ref h_t_toldTree, .ref h_t_splitPlaces, .ref h_t_layers, .int t_isWhy, .ref h_t_paper, .int t_papered, .ref h_t_held, .ref h_t_numbers, .ref h_t_sizes, .ref h_t_heldLeaves, .ref h_t_items, .ref h_t_kept, .int t_isKept])), (h_t_tape, .inl (cI, 60, .inl a_t_tape)), (h_t_powerPlaces, .inl (cI, 8, .inl (x1.1))), (h_t_toldPowers, .inl (cI, 8, .inl (x1.2.1))), (h_t_splitPlaces, .inl (cI, 3, .inl (x1.2.2.1))), (h_t_toldTree, .inl (cI, 3, .inl (x1.2.2.2.1))), (h_t_before, .inl (cI, 16, .inl a_t_before)), (h_t_powers, .inl (cI, 8, .inl a_t_powers)), (h_t_tree, .inl (cI, 3, .inl a_t_tree)), (h_t_layers, .inl (cI, 6, .inl a_t_layers)), (h_t_behind, .inl (cI, 144, .inl a_t_behind)), (h_t_ahead, .inl (cI, 144, .inl a_t_ahead))] := hD
    refine lv_aload_n hx hb dX9_read_67 rfl (lv_at hl 1 rfl) ?_
    obtain ⟨x5, hx5, h⟩ := bd_e h
    try dsimp only at h
    refine k_VvM (n := 0) (As := []) (rest := []) hx hb hml hown hts (c_X9_begins l G cI cJ cD cH H.size h_t h_t_before h_t_powers h_t_tree h_t_ahead h_t_behind h_t_rows h_t_met h_t_metSizes h_t_chosen h_t_tape h_t_toldPowers h_t_powerPlaces h_t_toldTree h_t_splitPlaces h_t_layers h_t_paper h_t_held h_t_numbers h_t_sizes h_t_heldLeaves h_t_items h_t_kept t_genus t_marks t_leaves t_splits t_done t_undone t_metMany t_treesSeen (0 : Int32) (x1.2.2.2.2.1) (x1.2.2.2.2.2.1) (x1.2.2.2.2.2.2.1) (x1.2.2.2.2.2.2.2.1) (x1.2.2.2.2.2.2.2.2.1) (x1.2.2.2.2.2.2.2.2.2.1) (x1.2.2.2.2.2.2.2.2.2.2.1) (x1.2.2.2.2.2.2.2.2.2.2.2) t_isWhy t_papered t_isKept a_t_before a_t_powers a_t_tree x5 hx5) gX9_read_X9_begins rfl rfl rfl (by decide +kernel) ⟨by first | exact Nat.le_of_ble_eq_true rfl | (simp only [headSpec]; omega), by first | exact Nat.le_of_ble_eq_true rfl | (simp only [headSpec]; omega)⟩ hK hP hD hS hA [0, 6, 7, 8] (by decide) rfl rfl (ci := 8) rfl rfl rfl rfl rfl hl.1 (Nat.le_of_ble_eq_true rfl) dX9_read_68 ⟨Nat.zero_le _, Nat.zero_le _⟩ [(h_t, .inr (8, [.int t_genus, .int t_marks, .ref h_t_powers, .int t_leaves, .int t_splits, .ref h_t_tree, .ref h_t_ahead, .ref h_t_behind, .ref h_t_before, .int t_done, .int t_undone, .ref h_t_rows, .ref h_t_met, .ref h_t_metSizes, .int t_metMany, .int t_treesSeen, .ref h_t_chosen, .ref h_t_tape, .int (0 : Int32), .int (x1.2.2.2.2.1), .int (x1.2.2.2.2.2.1), .int (x1.2.2.2.2.2.2.1), .int (x1.2.2.2.2.2.2.2.1), .ref h_t_toldPowers, .ref h_t_powerPlaces, .int (x1.2.2.2.2.2.2.2.2.1), .int (x1.2.2.2.2.2.2.2.2.2.1), .int (x1.2.2.2.2.2.2.2.2.2.2.1), .int (x1.2.2.2.2.2.2.2.2.2.2.2), .ref h_t_toldTree, .ref h_t_splitPlaces, .ref h_t_layers, .int t_isWhy, .ref h_t_paper, .int t_papered, .ref h_t_held, .ref h_t_numbers, .ref h_t_sizes, .ref h_t_heldLeaves, .ref h_t_items, .ref h_t_kept, .int t_isKept])), (h_t_tape, .inl (cI, 60, .inl a_t_tape)), (h_t_powerPlaces, .inl (cI, 8, .inl (x1.1))), (h_t_toldPowers, .inl (cI, 8, .inl (x1.2.1))), (h_t_splitPlaces, .inl (cI, 3, .inl (x1.2.2.1))), (h_t_toldTree, .inl (cI, 3, .inl (x1.2.2.2.1))), (h_t_before, .inl (cI, 16, .inl x5)), (h_t_powers, .inl (cI, 8, .inl a_t_powers)), (h_t_tree, .inl (cI, 3, .inl a_t_tree)), (h_t_layers, .inl (cI, 6, .inl a_t_layers)), (h_t_behind, .inl (cI, 144, .inl a_t_behind)), (h_t_ahead, .inl (cI, 144, .inl a_t_ahead))] [1, 0, 0, 0, 0, 0, 2, 3, 4, 0, 0, 0] 4 (by decide +kernel) rfl rfl rfl (fun hp5 H locs hP hD hS => ?_)
    refine lv_aload_n hx hb dX9_read_71 rfl (lv_at hl 1 rfl) ?_
    refine lv_aload_n hx hb dX9_read_72 rfl (lv_at hl 1 rfl) ?_
    refine va_get (D := G) (ci := 8) (v := .int (x1.2.2.2.2.2.2.1)) (C := RX9) (T := TX9) (N := 42) hx hb hts hinX9 hown hK hP 0 rfl rfl 21 (by decide) (hta _ mw_828) (fun _ h9 => h9) rfl dX9_read_73 ?_
    refine va_put (D := G) (ci := 8) (v := .int (x1.2.2.2.2.2.2.1)) (ty := .int) (C := RX9) (T := TX9) (N := 42) hx hb hts hinX9 tyX9 tyX9_ok nmX9 hown hK hP hD hS 0 rfl rfl 0 (by decide) (hta _ mw_640) (fun _ h9 => h9) rfl (by decide +kernel) rfl rfl (Nat.le_of_ble_eq_true rfl) dX9_read_76 (fun H locs hP hD hS => ?_)
    have hP : va_P G vwCl [(h_t, .inr (8, [.int (x1.2.2.2.2.2.2.1), .int t_marks, .ref h_t_powers, .int t_leaves, .int t_splits, .ref h_t_tree, .ref h_t_ahead, .ref h_t_behind, .ref h_t_before, .int t_done, .int t_undone, .ref h_t_rows, .ref h_t_met, .ref h_t_metSizes, .int t_metMany, .int t_treesSeen, .ref h_t_chosen, .ref h_t_tape, .int (0 : Int32), .int (x1.2.2.2.2.1), .int (x1.2.2.2.2.2.1), .int (x1.2.2.2.2.2.2.1), .int (x1.2.2.2.2.2.2.2.1), .ref h_t_toldPowers, .ref h_t_powerPlaces, .int (x1.2.2.2.2.2.2.2.2.1), .int (x1.2.2.2.2.2.2.2.2.2.1), .int (x1.2.2.2.2.2.2.2.2.2.2.1), .int (x1.2.2.2.2.2.2.2.2.2.2.2), .ref h_t_toldTree, .ref h_t_splitPlaces, .ref h_t_layers, .int t_isWhy, .ref h_t_paper, .int t_papered, .ref h_t_held, .ref h_t_numbers, .ref h_t_sizes, .ref h_t_heldLeaves, .ref h_t_items, .ref h_t_kept, .int t_isKept])), (h_t_tape, .inl (cI, 60, .inl a_t_tape)), (h_t_powerPlaces, .inl (cI, 8, .inl (x1.1))), (h_t_toldPowers, .inl (cI, 8, .inl (x1.2.1))), (h_t_splitPlaces, .inl (cI, 3, .inl (x1.2.2.1))), (h_t_toldTree, .inl (cI, 3, .inl (x1.2.2.2.1))), (h_t_before, .inl (cI, 16, .inl x5)), (h_t_powers, .inl (cI, 8, .inl a_t_powers)), (h_t_tree, .inl (cI, 3, .inl a_t_tree)), (h_t_layers, .inl (cI, 6, .inl a_t_layers)), (h_t_behind, .inl (cI, 144, .inl a_t_behind)), (h_t_ahead, .inl (cI, 144, .inl a_t_ahead))] H := hP
    have hD : va_D A [(h_t, .inr (8, [.int (x1.2.2.2.2.2.2.1), .int t_marks, .ref h_t_powers, .int t_leaves, .int t_splits, .ref h_t_tree, .ref h_t_ahead, .ref h_t_behind, .ref h_t_before, .int t_done, .int t_undone, .ref h_t_rows, .ref h_t_met, .ref h_t_metSizes, .int t_metMany, .int t_treesSeen, .ref h_t_chosen, .ref h_t_tape, .int (0 : Int32), .int (x1.2.2.2.2.1), .int (x1.2.2.2.2.2.1), .int (x1.2.2.2.2.2.2.1), .int (x1.2.2.2.2.2.2.2.1), .ref h_t_toldPowers, .ref h_t_powerPlaces, .int (x1.2.2.2.2.2.2.2.2.1), .int (x1.2.2.2.2.2.2.2.2.2.1), .int (x1.2.2.2.2.2.2.2.2.2.2.1), .int (x1.2.2.2.2.2.2.2.2.2.2.2), .ref h_t_toldTree, .ref h_t_splitPlaces, .ref h_t_layers, .int t_isWhy, .ref h_t_paper, .int t_papered, .ref h_t_held, .ref h_t_numbers, .ref h_t_sizes, .ref h_t_heldLeaves, .ref h_t_items, .ref h_t_kept, .int t_isKept])), (h_t_tape, .inl (cI, 60, .inl a_t_tape)), (h_t_powerPlaces, .inl (cI, 8, .inl (x1.1))), (h_t_toldPowers, .inl (cI, 8, .inl (x1.2.1))), (h_t_splitPlaces, .inl (cI, 3, .inl (x1.2.2.1))), (h_t_toldTree, .inl (cI, 3, .inl (x1.2.2.2.1))), (h_t_before, .inl (cI, 16, .inl x5)), (h_t_powers, .inl (cI, 8, .inl a_t_powers)), (h_t_tree, .inl (cI, 3, .inl a_t_tree)), (h_t_layers, .inl (cI, 6, .inl a_t_layers)), (h_t_behind, .inl (cI, 144, .inl a_t_behind)), (h_t_ahead, .inl (cI, 144, .inl a_t_ahead))] := hD
    refine lv_aload_n hx hb dX9_read_79 rfl (lv_at hl 1 rfl) ?_
    refine lv_aload_n hx hb dX9_read_80 rfl (lv_at hl 1 rfl) ?_
    refine va_get (D := G) (ci := 8) (v := .int (x1.2.2.2.2.2.2.2.1)) (C := RX9) (T := TX9) (N := 42) hx hb hts hinX9 hown hK hP 0 rfl rfl 22 (by decide) (hta _ mw_820) (fun _ h9 => h9) rfl dX9_read_81 ?_
    refine va_put (D := G) (ci := 8) (v := .int (x1.2.2.2.2.2.2.2.1)) (ty := .int) (C := RX9) (T := TX9) (N := 42) hx hb hts hinX9 tyX9 tyX9_ok nmX9 hown hK hP hD hS 0 rfl rfl 1 (by decide) (hta _ mw_641) (fun _ h9 => h9) rfl (by decide +kernel) rfl rfl (Nat.le_of_ble_eq_true rfl) dX9_read_84 (fun H locs hP hD hS => ?_)
    have hP : va_P G vwCl [(h_t, .inr (8, [.int (x1.2.2.2.2.2.2.1), .int (x1.2.2.2.2.2.2.2.1), .ref h_t_powers, .int t_leaves, .int t_splits, .ref h_t_tree, .ref h_t_ahead, .ref h_t_behind, .ref h_t_before, .int t_done, .int t_undone, .ref h_t_rows, .ref h_t_met, .ref h_t_metSizes, .int t_metMany, .int t_treesSeen, .ref h_t_chosen, .ref h_t_tape, .int (0 : Int32), .int (x1.2.2.2.2.1), .int (x1.2.2.2.2.2.1), .int (x1.2.2.2.2.2.2.1), .int (x1.2.2.2.2.2.2.2.1), .ref h_t_toldPowers, .ref h_t_powerPlaces, .int (x1.2.2.2.2.2.2.2.2.1), .int (x1.2.2.2.2.2.2.2.2.2.1), .int (x1.2.2.2.2.2.2.2.2.2.2.1), .int (x1.2.2.2.2.2.2.2.2.2.2.2), .ref h_t_toldTree, .ref h_t_splitPlaces, .ref h_t_layers, .int t_isWhy, .ref h_t_paper, .int t_papered, .ref h_t_held, .ref h_t_numbers, .ref h_t_sizes, .ref h_t_heldLeaves, .ref h_t_items, .ref h_t_kept, .int t_isKept])), (h_t_tape, .inl (cI, 60, .inl a_t_tape)), (h_t_powerPlaces, .inl (cI, 8, .inl (x1.1))), (h_t_toldPowers, .inl (cI, 8, .inl (x1.2.1))), (h_t_splitPlaces, .inl (cI, 3, .inl (x1.2.2.1))), (h_t_toldTree, .inl (cI, 3, .inl (x1.2.2.2.1))), (h_t_before, .inl (cI, 16, .inl x5)), (h_t_powers, .inl (cI, 8, .inl a_t_powers)), (h_t_tree, .inl (cI, 3, .inl a_t_tree)), (h_t_layers, .inl (cI, 6, .inl a_t_layers)), (h_t_behind, .inl (cI, 144, .inl a_t_behind)), (h_t_ahead, .inl (cI, 144, .inl a_t_ahead))] H := hP
    have hD : va_D A [(h_t, .inr (8, [.int (x1.2.2.2.2.2.2.1), .int (x1.2.2.2.2.2.2.2.1), .ref h_t_powers, .int t_leaves, .int t_splits, .ref h_t_tree, .ref h_t_ahead, .ref h_t_behind, .ref h_t_before, .int t_done, .int t_undone, .ref h_t_rows, .ref h_t_met, .ref h_t_metSizes, .int t_metMany, .int t_treesSeen, .ref h_t_chosen, .ref h_t_tape, .int (0 : Int32), .int (x1.2.2.2.2.1), .int (x1.2.2.2.2.2.1), .int (x1.2.2.2.2.2.2.1), .int (x1.2.2.2.2.2.2.2.1), .ref h_t_toldPowers, .ref h_t_powerPlaces, .int (x1.2.2.2.2.2.2.2.2.1), .int (x1.2.2.2.2.2.2.2.2.2.1), .int (x1.2.2.2.2.2.2.2.2.2.2.1), .int (x1.2.2.2.2.2.2.2.2.2.2.2), .ref h_t_toldTree, .ref h_t_splitPlaces, .ref h_t_layers, .int t_isWhy, .ref h_t_paper, .int t_papered, .ref h_t_held, .ref h_t_numbers, .ref h_t_sizes, .ref h_t_heldLeaves, .ref h_t_items, .ref h_t_kept, .int t_isKept])), (h_t_tape, .inl (cI, 60, .inl a_t_tape)), (h_t_powerPlaces, .inl (cI, 8, .inl (x1.1))), (h_t_toldPowers, .inl (cI, 8, .inl (x1.2.1))), (h_t_splitPlaces, .inl (cI, 3, .inl (x1.2.2.1))), (h_t_toldTree, .inl (cI, 3, .inl (x1.2.2.2.1))), (h_t_before, .inl (cI, 16, .inl x5)), (h_t_powers, .inl (cI, 8, .inl a_t_powers)), (h_t_tree, .inl (cI, 3, .inl a_t_tree)), (h_t_layers, .inl (cI, 6, .inl a_t_layers)), (h_t_behind, .inl (cI, 144, .inl a_t_behind)), (h_t_ahead, .inl (cI, 144, .inl a_t_ahead))] := hD
    refine lv_iconst (v := (0 : Int32)) hx hb dX9_read_87 (by decide) ?_
    refine lv_istore_n (lv' := [(2, .int (0 : Int32)), (1, .int x3), (0, .ref h_t)]) hx hb dX9_read_88 rfl hl (by decide) rfl (fun ls hl => ?_)
    have hL89 : ∀ (n89 : Nat) (vL89_0 : Nat → Int32) (vL89_1 : Int32) (H : Heap) (locs : List Loc) (ls : Array Slot), va_P G vwCl [(h_t, .inr (8, [.int (x1.2.2.2.2.2.2.1), .int (x1.2.2.2.2.2.2.2.1), .ref h_t_powers, .int t_leaves, .int t_splits, .ref h_t_tree, .ref h_t_ahead, .ref h_t_behind, .ref h_t_before, .int t_done, .int t_undone, .ref h_t_rows, .ref h_t_met, .ref h_t_metSizes, .int t_metMany, .int t_treesSeen, .ref h_t_chosen, .ref h_t_tape, .int (0 : Int32), .int (x1.2.2.2.2.1), .int (x1.2.2.2.2.2.1), .int (x1.2.2.2.2.2.2.1), .int (x1.2.2.2.2.2.2.2.1), .ref h_t_toldPowers, .ref h_t_powerPlaces, .int (x1.2.2.2.2.2.2.2.2.1), .int (x1.2.2.2.2.2.2.2.2.2.1), .int (x1.2.2.2.2.2.2.2.2.2.2.1), .int (x1.2.2.2.2.2.2.2.2.2.2.2), .ref h_t_toldTree, .ref h_t_splitPlaces, .ref h_t_layers, .int t_isWhy, .ref h_t_paper, .int t_papered, .ref h_t_held, .ref h_t_numbers, .ref h_t_sizes, .ref h_t_heldLeaves, .ref h_t_items, .ref h_t_kept, .int t_isKept])), (h_t_tape, .inl (cI, 60, .inl a_t_tape)), (h_t_powerPlaces, .inl (cI, 8, .inl (x1.1))), (h_t_toldPowers, .inl (cI, 8, .inl (x1.2.1))), (h_t_splitPlaces, .inl (cI, 3, .inl (x1.2.2.1))), (h_t_toldTree, .inl (cI, 3, .inl (x1.2.2.2.1))), (h_t_before, .inl (cI, 16, .inl x5)), (h_t_powers, .inl (cI, 8, .inl vL89_0)), (h_t_tree, .inl (cI, 3, .inl a_t_tree)), (h_t_layers, .inl (cI, 6, .inl a_t_layers)), (h_t_behind, .inl (cI, 144, .inl a_t_behind)), (h_t_ahead, .inl (cI, 144, .inl a_t_ahead))] H → va_D A [(h_t, .inr (8, [.int (x1.2.2.2.2.2.2.1), .int (x1.2.2.2.2.2.2.2.1), .ref h_t_powers, .int t_leaves, .int t_splits, .ref h_t_tree, .ref h_t_ahead, .ref h_t_behind, .ref h_t_before, .int t_done, .int t_undone, .ref h_t_rows, .ref h_t_met, .ref h_t_metSizes, .int t_metMany, .int t_treesSeen, .ref h_t_chosen, .ref h_t_tape, .int (0 : Int32), .int (x1.2.2.2.2.1), .int (x1.2.2.2.2.2.1), .int (x1.2.2.2.2.2.2.1), .int (x1.2.2.2.2.2.2.2.1), .ref h_t_toldPowers, .ref h_t_powerPlaces, .int (x1.2.2.2.2.2.2.2.2.1), .int (x1.2.2.2.2.2.2.2.2.2.1), .int (x1.2.2.2.2.2.2.2.2.2.2.1), .int (x1.2.2.2.2.2.2.2.2.2.2.2), .ref h_t_toldTree, .ref h_t_splitPlaces, .ref h_t_layers, .int t_isWhy, .ref h_t_paper, .int t_papered, .ref h_t_held, .ref h_t_numbers, .ref h_t_sizes, .ref h_t_heldLeaves, .ref h_t_items, .ref h_t_kept, .int t_isKept])), (h_t_tape, .inl (cI, 60, .inl a_t_tape)), (h_t_powerPlaces, .inl (cI, 8, .inl (x1.1))), (h_t_toldPowers, .inl (cI, 8, .inl (x1.2.1))), (h_t_splitPlaces, .inl (cI, 3, .inl (x1.2.2.1))), (h_t_toldTree, .inl (cI, 3, .inl (x1.2.2.2.1))), (h_t_before, .inl (cI, 16, .inl x5)), (h_t_powers, .inl (cI, 8, .inl vL89_0)), (h_t_tree, .inl (cI, 3, .inl a_t_tree)), (h_t_layers, .inl (cI, 6, .inl a_t_layers)), (h_t_behind, .inl (cI, 144, .inl a_t_behind)), (h_t_ahead, .inl (cI, 144, .inl a_t_ahead))] → va_S A s.heap H locs → lv_has ls 3 [(0, .ref h_t), (2, .int vL89_1)] → wq2 (B_X9_read_89 x1 (K_X9_read_89_115 t_leaves t_splits t_done t_undone t_isWhy a_t_tree a_t_layers a_t_behind a_t_ahead x1 x5)) n89 vL89_0 vL89_1 = some (r0, w0, w1, w2, w3, w4, w5, w6, w7, w8, w9, w10, w11, w12, w13, w14, w15, w16, w17, w18, w19, w20, w21, w22, w23, w24, w25) → W p l e (headSpec wsX9_read ({ frames := 5, cells := 0, slots := 0, locals := 108 })).room s m ([.ref h_t] : List Value).toArray below meth c H locs 0 0 (MQ below (va_Qi (fun r (_ : Unit) => r = r0 ∧ True) (fun _ t => va_P G vwCl [(h_t, .inr (8, [.int w10, .int w11, .ref h_t_powers, .int w22, .int w24, .ref h_t_tree, .ref h_t_ahead, .ref h_t_behind, .ref h_t_before, .int w25, .int w12, .ref h_t_rows, .ref h_t_met, .ref h_t_metSizes, .int t_metMany, .int t_treesSeen, .ref h_t_chosen, .ref h_t_tape, .int w13, .int w14, .int w15, .int w16, .int w17, .ref h_t_toldPowers, .ref h_t_powerPlaces, .int w18, .int w19, .int w20, .int w21, .ref h_t_toldTree, .ref h_t_splitPlaces, .ref h_t_layers, .int w23, .ref h_t_paper, .int t_papered, .ref h_t_held, .ref h_t_numbers, .ref h_t_sizes, .ref h_t_heldLeaves, .ref h_t_items, .ref h_t_kept, .int t_isKept])), (h_t_tape, .inl (cI, 60, .inl a_t_tape)), (h_t_powerPlaces, .inl (cI, 8, .inl w2)), (h_t_toldPowers, .inl (cI, 8, .inl w3)), (h_t_splitPlaces, .inl (cI, 3, .inl w4)), (h_t_toldTree, .inl (cI, 3, .inl w5)), (h_t_before, .inl (cI, 16, .inl w6)), (h_t_powers, .inl (cI, 8, .inl w7)), (h_t_tree, .inl (cI, 3, .inl w8)), (h_t_layers, .inl (cI, 6, .inl w9)), (h_t_behind, .inl (cI, 144, .inl w0)), (h_t_ahead, .inl (cI, 144, .inl w1))] t.heap) A) ([.ref h_t] : List Value).toArray s 0 0 A) (F0 m 89 ls []) := by
      intro n89
      induction n89 with
      | zero => intro vL89_0 vL89_1 H locs ls hP hD hS hl h; exact wq2_0 h
      | succ n89 ih89 =>
        intro vL89_0 vL89_1 H locs ls hP hD hS hl h
        have h := wq2_s h
        unfold B_X9_read_89 at h
        refine lv_iload_n hx hb dX9_read_89 rfl (lv_at hl 1 rfl) ?_
        refine lv_aload_n hx hb dX9_read_90 rfl (lv_at hl 0 rfl) ?_
        refine va_get (D := G) (ci := 8) (v := .int (x1.2.2.2.2.2.2.2.1)) (C := RX9) (T := TX9) (N := 42) hx hb hts hinX9 hown hK hP 0 rfl rfl 1 (by decide) (hta _ mw_641) (fun _ h9 => h9) rfl dX9_read_91 ?_
        refine lv_icmp_ge (tgt := 115) hx hb dX9_read_94 (by decide) (fun c12 => ?_) (fun c12 => ?_)
        · have h := it_p h c12
          exact tK_X9_read_89_115 hx hb hr hml hts hown hlocks hK hA vL89_0 _ _ _ hP hD hS (lv_sub hl [0] rfl) h
        have h := it_n h c12
        refine lv_aload_n hx hb dX9_read_97 rfl (lv_at hl 0 rfl) ?_
        refine va_get (D := G) (ci := 8) (v := .ref h_t_powers) (C := RX9) (T := TX9) (N := 42) hx hb hts hinX9 hown hK hP 0 rfl rfl 2 (by decide) (hta _ mw_608) (fun _ h9 => h9) rfl dX9_read_98 ?_
        refine lv_iload_n hx hb dX9_read_101 rfl (lv_at hl 1 rfl) ?_
        refine lv_aload_n hx hb dX9_read_102 rfl (lv_at hl 0 rfl) ?_
        refine va_get (D := G) (ci := 8) (v := .ref h_t_toldPowers) (C := RX9) (T := TX9) (N := 42) hx hb hts hinX9 hown hK hP 0 rfl rfl 23 (by decide) (hta _ mw_620) (fun _ h9 => h9) rfl dX9_read_103 ?_
        refine lv_iload_n hx hb dX9_read_106 rfl (lv_at hl 1 rfl) ?_
        obtain ⟨hn13, h⟩ := ck_e h
        refine va_iald hx hb hK hP 3 0 rfl rfl hn13 dX9_read_107 ?_
        obtain ⟨hn14, h⟩ := ck_e h
        refine va_iast hx hb hK hP hD hS 7 0 rfl rfl hn14 dX9_read_108 (fun H locs hP hD hS => ?_)
        have hP : va_P G vwCl [(h_t, .inr (8, [.int (x1.2.2.2.2.2.2.1), .int (x1.2.2.2.2.2.2.2.1), .ref h_t_powers, .int t_leaves, .int t_splits, .ref h_t_tree, .ref h_t_ahead, .ref h_t_behind, .ref h_t_before, .int t_done, .int t_undone, .ref h_t_rows, .ref h_t_met, .ref h_t_metSizes, .int t_metMany, .int t_treesSeen, .ref h_t_chosen, .ref h_t_tape, .int (0 : Int32), .int (x1.2.2.2.2.1), .int (x1.2.2.2.2.2.1), .int (x1.2.2.2.2.2.2.1), .int (x1.2.2.2.2.2.2.2.1), .ref h_t_toldPowers, .ref h_t_powerPlaces, .int (x1.2.2.2.2.2.2.2.2.1), .int (x1.2.2.2.2.2.2.2.2.2.1), .int (x1.2.2.2.2.2.2.2.2.2.2.1), .int (x1.2.2.2.2.2.2.2.2.2.2.2), .ref h_t_toldTree, .ref h_t_splitPlaces, .ref h_t_layers, .int t_isWhy, .ref h_t_paper, .int t_papered, .ref h_t_held, .ref h_t_numbers, .ref h_t_sizes, .ref h_t_heldLeaves, .ref h_t_items, .ref h_t_kept, .int t_isKept])), (h_t_tape, .inl (cI, 60, .inl a_t_tape)), (h_t_powerPlaces, .inl (cI, 8, .inl (x1.1))), (h_t_toldPowers, .inl (cI, 8, .inl (x1.2.1))), (h_t_splitPlaces, .inl (cI, 3, .inl (x1.2.2.1))), (h_t_toldTree, .inl (cI, 3, .inl (x1.2.2.2.1))), (h_t_before, .inl (cI, 16, .inl x5)), (h_t_powers, .inl (cI, 8, .inl (upd vL89_0 vL89_1.toNatClampNeg ((x1.2.1) vL89_1.toNatClampNeg)))), (h_t_tree, .inl (cI, 3, .inl a_t_tree)), (h_t_layers, .inl (cI, 6, .inl a_t_layers)), (h_t_behind, .inl (cI, 144, .inl a_t_behind)), (h_t_ahead, .inl (cI, 144, .inl a_t_ahead))] H := hP
        have hD : va_D A [(h_t, .inr (8, [.int (x1.2.2.2.2.2.2.1), .int (x1.2.2.2.2.2.2.2.1), .ref h_t_powers, .int t_leaves, .int t_splits, .ref h_t_tree, .ref h_t_ahead, .ref h_t_behind, .ref h_t_before, .int t_done, .int t_undone, .ref h_t_rows, .ref h_t_met, .ref h_t_metSizes, .int t_metMany, .int t_treesSeen, .ref h_t_chosen, .ref h_t_tape, .int (0 : Int32), .int (x1.2.2.2.2.1), .int (x1.2.2.2.2.2.1), .int (x1.2.2.2.2.2.2.1), .int (x1.2.2.2.2.2.2.2.1), .ref h_t_toldPowers, .ref h_t_powerPlaces, .int (x1.2.2.2.2.2.2.2.2.1), .int (x1.2.2.2.2.2.2.2.2.2.1), .int (x1.2.2.2.2.2.2.2.2.2.2.1), .int (x1.2.2.2.2.2.2.2.2.2.2.2), .ref h_t_toldTree, .ref h_t_splitPlaces, .ref h_t_layers, .int t_isWhy, .ref h_t_paper, .int t_papered, .ref h_t_held, .ref h_t_numbers, .ref h_t_sizes, .ref h_t_heldLeaves, .ref h_t_items, .ref h_t_kept, .int t_isKept])), (h_t_tape, .inl (cI, 60, .inl a_t_tape)), (h_t_powerPlaces, .inl (cI, 8, .inl (x1.1))), (h_t_toldPowers, .inl (cI, 8, .inl (x1.2.1))), (h_t_splitPlaces, .inl (cI, 3, .inl (x1.2.2.1))), (h_t_toldTree, .inl (cI, 3, .inl (x1.2.2.2.1))), (h_t_before, .inl (cI, 16, .inl x5)), (h_t_powers, .inl (cI, 8, .inl (upd vL89_0 vL89_1.toNatClampNeg ((x1.2.1) vL89_1.toNatClampNeg)))), (h_t_tree, .inl (cI, 3, .inl a_t_tree)), (h_t_layers, .inl (cI, 6, .inl a_t_layers)), (h_t_behind, .inl (cI, 144, .inl a_t_behind)), (h_t_ahead, .inl (cI, 144, .inl a_t_ahead))] := hD
        refine lv_iinc (v := (vL89_1 + (1 : Int32))) (lv' := [(2, .int (vL89_1 + (1 : Int32))), (0, .ref h_t)]) hx hb dX9_read_109 hl (k := 1) rfl (by first | rfl | decide) (by decide) rfl (fun ls hl => ?_)
        refine lv_goto (tgt := 89) hx hb dX9_read_112 (by decide) ?_
        exact ih89 (upd vL89_0 vL89_1.toNatClampNeg ((x1.2.1) vL89_1.toNatClampNeg)) (vL89_1 + (1 : Int32)) _ _ _ hP hD hS (lv_sub hl [1, 0] rfl) h
    exact hL89 FU a_t_powers (0 : Int32) _ _ _ hP hD hS (lv_sub hl [2, 0] rfl) h
  have h := it_n h c4
  refine lv_aload_n hx hb dX9_read_44 rfl (lv_at hl 1 rfl) ?_
  refine lv_bipush (v := (7 : Int32)) hx hb dX9_read_45 (by decide) ?_
  refine lv_iload_n hx hb dX9_read_47 rfl (lv_at hl 0 rfl) ?_
  obtain ⟨x15, hx15, h⟩ := bd_e h
  try dsimp only at h
  refine k_VvM (n := 2) (As := [.int (7 : Int32), .int x3]) (rest := []) hx hb hml hown hts (c_X9_because l G cI cJ cD cH H.size h_t h_t_tape h_t_layers h_t_powers h_t_tree h_t_ahead h_t_behind h_t_before h_t_rows h_t_met h_t_metSizes h_t_chosen h_t_toldPowers h_t_powerPlaces h_t_toldTree h_t_splitPlaces h_t_paper h_t_held h_t_numbers h_t_sizes h_t_heldLeaves h_t_items h_t_kept t_genus t_marks t_leaves t_splits t_done t_undone t_metMany t_treesSeen t_taped (x1.2.2.2.2.1) (x1.2.2.2.2.2.1) (x1.2.2.2.2.2.2.1) (x1.2.2.2.2.2.2.2.1) (x1.2.2.2.2.2.2.2.2.1) (x1.2.2.2.2.2.2.2.2.2.1) (x1.2.2.2.2.2.2.2.2.2.2.1) (x1.2.2.2.2.2.2.2.2.2.2.2) t_isWhy t_papered t_isKept a_t_tape a_t_layers (7 : Int32) x3 (x15.1) (x15.2) hx15) gX9_read_X9_because rfl rfl rfl (by decide +kernel) ⟨by first | exact Nat.le_of_ble_eq_true rfl | (simp only [headSpec]; omega), by first | exact Nat.le_of_ble_eq_true rfl | (simp only [headSpec]; omega)⟩ hK hP hD hS hA [0, 1, 9] (by decide) rfl rfl (ci := 8) rfl rfl rfl rfl rfl hl.1 (Nat.le_of_ble_eq_true rfl) dX9_read_48 ⟨Nat.zero_le _, Nat.zero_le _⟩ [(h_t, .inr (8, [.int t_genus, .int t_marks, .ref h_t_powers, .int t_leaves, .int t_splits, .ref h_t_tree, .ref h_t_ahead, .ref h_t_behind, .ref h_t_before, .int t_done, .int t_undone, .ref h_t_rows, .ref h_t_met, .ref h_t_metSizes, .int t_metMany, .int t_treesSeen, .ref h_t_chosen, .ref h_t_tape, .int t_taped, .int (x1.2.2.2.2.1), .int (x1.2.2.2.2.2.1), .int (x1.2.2.2.2.2.2.1), .int (x1.2.2.2.2.2.2.2.1), .ref h_t_toldPowers, .ref h_t_powerPlaces, .int (x1.2.2.2.2.2.2.2.2.1), .int (x1.2.2.2.2.2.2.2.2.2.1), .int (x1.2.2.2.2.2.2.2.2.2.2.1), .int (x1.2.2.2.2.2.2.2.2.2.2.2), .ref h_t_toldTree, .ref h_t_splitPlaces, .ref h_t_layers, .int (x15.2), .ref h_t_paper, .int t_papered, .ref h_t_held, .ref h_t_numbers, .ref h_t_sizes, .ref h_t_heldLeaves, .ref h_t_items, .ref h_t_kept, .int t_isKept])), (h_t_tape, .inl (cI, 60, .inl a_t_tape)), (h_t_powerPlaces, .inl (cI, 8, .inl (x1.1))), (h_t_toldPowers, .inl (cI, 8, .inl (x1.2.1))), (h_t_splitPlaces, .inl (cI, 3, .inl (x1.2.2.1))), (h_t_toldTree, .inl (cI, 3, .inl (x1.2.2.2.1))), (h_t_before, .inl (cI, 16, .inl a_t_before)), (h_t_powers, .inl (cI, 8, .inl a_t_powers)), (h_t_tree, .inl (cI, 3, .inl a_t_tree)), (h_t_layers, .inl (cI, 6, .inl (x15.1))), (h_t_behind, .inl (cI, 144, .inl a_t_behind)), (h_t_ahead, .inl (cI, 144, .inl a_t_ahead))] [1, 2, 0, 0, 0, 0, 0, 0, 0, 3, 0, 0] 3 (by decide +kernel) rfl rfl rfl (fun hp15 H locs hP hD hS => ?_)
  refine lv_aload_n hx hb dX9_read_51 rfl (lv_at hl 1 rfl) ?_
  refine lv_iconst (v := (0 : Int32)) hx hb dX9_read_52 (by decide) ?_
  refine va_put (D := G) (ci := 8) (v := .int (0 : Int32)) (ty := .int) (C := RX9) (T := TX9) (N := 42) hx hb hts hinX9 tyX9 tyX9_ok nmX9 hown hK hP hD hS 0 rfl rfl 18 (by decide) (hta _ mw_803) (fun _ h9 => h9) rfl (by decide +kernel) rfl rfl (Nat.le_of_ble_eq_true rfl) dX9_read_53 (fun H locs hP hD hS => ?_)
  have hP : va_P G vwCl [(h_t, .inr (8, [.int t_genus, .int t_marks, .ref h_t_powers, .int t_leaves, .int t_splits, .ref h_t_tree, .ref h_t_ahead, .ref h_t_behind, .ref h_t_before, .int t_done, .int t_undone, .ref h_t_rows, .ref h_t_met, .ref h_t_metSizes, .int t_metMany, .int t_treesSeen, .ref h_t_chosen, .ref h_t_tape, .int (0 : Int32), .int (x1.2.2.2.2.1), .int (x1.2.2.2.2.2.1), .int (x1.2.2.2.2.2.2.1), .int (x1.2.2.2.2.2.2.2.1), .ref h_t_toldPowers, .ref h_t_powerPlaces, .int (x1.2.2.2.2.2.2.2.2.1), .int (x1.2.2.2.2.2.2.2.2.2.1), .int (x1.2.2.2.2.2.2.2.2.2.2.1), .int (x1.2.2.2.2.2.2.2.2.2.2.2), .ref h_t_toldTree, .ref h_t_splitPlaces, .ref h_t_layers, .int (x15.2), .ref h_t_paper, .int t_papered, .ref h_t_held, .ref h_t_numbers, .ref h_t_sizes, .ref h_t_heldLeaves, .ref h_t_items, .ref h_t_kept, .int t_isKept])), (h_t_tape, .inl (cI, 60, .inl a_t_tape)), (h_t_powerPlaces, .inl (cI, 8, .inl (x1.1))), (h_t_toldPowers, .inl (cI, 8, .inl (x1.2.1))), (h_t_splitPlaces, .inl (cI, 3, .inl (x1.2.2.1))), (h_t_toldTree, .inl (cI, 3, .inl (x1.2.2.2.1))), (h_t_before, .inl (cI, 16, .inl a_t_before)), (h_t_powers, .inl (cI, 8, .inl a_t_powers)), (h_t_tree, .inl (cI, 3, .inl a_t_tree)), (h_t_layers, .inl (cI, 6, .inl (x15.1))), (h_t_behind, .inl (cI, 144, .inl a_t_behind)), (h_t_ahead, .inl (cI, 144, .inl a_t_ahead))] H := hP
  have hD : va_D A [(h_t, .inr (8, [.int t_genus, .int t_marks, .ref h_t_powers, .int t_leaves, .int t_splits, .ref h_t_tree, .ref h_t_ahead, .ref h_t_behind, .ref h_t_before, .int t_done, .int t_undone, .ref h_t_rows, .ref h_t_met, .ref h_t_metSizes, .int t_metMany, .int t_treesSeen, .ref h_t_chosen, .ref h_t_tape, .int (0 : Int32), .int (x1.2.2.2.2.1), .int (x1.2.2.2.2.2.1), .int (x1.2.2.2.2.2.2.1), .int (x1.2.2.2.2.2.2.2.1), .ref h_t_toldPowers, .ref h_t_powerPlaces, .int (x1.2.2.2.2.2.2.2.2.1), .int (x1.2.2.2.2.2.2.2.2.2.1), .int (x1.2.2.2.2.2.2.2.2.2.2.1), .int (x1.2.2.2.2.2.2.2.2.2.2.2), .ref h_t_toldTree, .ref h_t_splitPlaces, .ref h_t_layers, .int (x15.2), .ref h_t_paper, .int t_papered, .ref h_t_held, .ref h_t_numbers, .ref h_t_sizes, .ref h_t_heldLeaves, .ref h_t_items, .ref h_t_kept, .int t_isKept])), (h_t_tape, .inl (cI, 60, .inl a_t_tape)), (h_t_powerPlaces, .inl (cI, 8, .inl (x1.1))), (h_t_toldPowers, .inl (cI, 8, .inl (x1.2.1))), (h_t_splitPlaces, .inl (cI, 3, .inl (x1.2.2.1))), (h_t_toldTree, .inl (cI, 3, .inl (x1.2.2.2.1))), (h_t_before, .inl (cI, 16, .inl a_t_before)), (h_t_powers, .inl (cI, 8, .inl a_t_powers)), (h_t_tree, .inl (cI, 3, .inl a_t_tree)), (h_t_layers, .inl (cI, 6, .inl (x15.1))), (h_t_behind, .inl (cI, 144, .inl a_t_behind)), (h_t_ahead, .inl (cI, 144, .inl a_t_ahead))] := hD
  refine lv_sipush (v := (-2000 : Int32)) hx hb dX9_read_56 (by decide) ?_
  refine lv_iload_n hx hb dX9_read_59 rfl (lv_at hl 0 rfl) ?_
  refine lv_isub hx hb dX9_read_60 ?_
  have h9 := Option.some.inj h
  have e9 : ((-2000 : Int32) - x3) = r0 := congrArg (fun z9 => z9.1) h9
  rw [← e9]
  have e9 : a_t_behind = w0 := congrArg (fun z9 => z9.2.1) h9
  rw [← e9]
  have e9 : a_t_ahead = w1 := congrArg (fun z9 => z9.2.2.1) h9
  rw [← e9]
  have e9 : (x1.1) = w2 := congrArg (fun z9 => z9.2.2.2.1) h9
  rw [← e9]
  have e9 : (x1.2.1) = w3 := congrArg (fun z9 => z9.2.2.2.2.1) h9
  rw [← e9]
  have e9 : (x1.2.2.1) = w4 := congrArg (fun z9 => z9.2.2.2.2.2.1) h9
  rw [← e9]
  have e9 : (x1.2.2.2.1) = w5 := congrArg (fun z9 => z9.2.2.2.2.2.2.1) h9
  rw [← e9]
  have e9 : a_t_before = w6 := congrArg (fun z9 => z9.2.2.2.2.2.2.2.1) h9
  rw [← e9]
  have e9 : a_t_powers = w7 := congrArg (fun z9 => z9.2.2.2.2.2.2.2.2.1) h9
  rw [← e9]
  have e9 : a_t_tree = w8 := congrArg (fun z9 => z9.2.2.2.2.2.2.2.2.2.1) h9
  rw [← e9]
  have e9 : (x15.1) = w9 := congrArg (fun z9 => z9.2.2.2.2.2.2.2.2.2.2.1) h9
  rw [← e9]
  have e9 : t_genus = w10 := congrArg (fun z9 => z9.2.2.2.2.2.2.2.2.2.2.2.1) h9
  rw [← e9]
  have e9 : t_marks = w11 := congrArg (fun z9 => z9.2.2.2.2.2.2.2.2.2.2.2.2.1) h9
  rw [← e9]
  have e9 : t_undone = w12 := congrArg (fun z9 => z9.2.2.2.2.2.2.2.2.2.2.2.2.2.1) h9
  rw [← e9]
  have e9 : (0 : Int32) = w13 := congrArg (fun z9 => z9.2.2.2.2.2.2.2.2.2.2.2.2.2.2.1) h9
  rw [← e9]
  have e9 : (x1.2.2.2.2.1) = w14 := congrArg (fun z9 => z9.2.2.2.2.2.2.2.2.2.2.2.2.2.2.2.1) h9
  rw [← e9]
  have e9 : (x1.2.2.2.2.2.1) = w15 := congrArg (fun z9 => z9.2.2.2.2.2.2.2.2.2.2.2.2.2.2.2.2.1) h9
  rw [← e9]
  have e9 : (x1.2.2.2.2.2.2.1) = w16 := congrArg (fun z9 => z9.2.2.2.2.2.2.2.2.2.2.2.2.2.2.2.2.2.1) h9
  rw [← e9]
  have e9 : (x1.2.2.2.2.2.2.2.1) = w17 := congrArg (fun z9 => z9.2.2.2.2.2.2.2.2.2.2.2.2.2.2.2.2.2.2.1) h9
  rw [← e9]
  have e9 : (x1.2.2.2.2.2.2.2.2.1) = w18 := congrArg (fun z9 => z9.2.2.2.2.2.2.2.2.2.2.2.2.2.2.2.2.2.2.2.1) h9
  rw [← e9]
  have e9 : (x1.2.2.2.2.2.2.2.2.2.1) = w19 := congrArg (fun z9 => z9.2.2.2.2.2.2.2.2.2.2.2.2.2.2.2.2.2.2.2.2.1) h9
  rw [← e9]
  have e9 : (x1.2.2.2.2.2.2.2.2.2.2.1) = w20 := congrArg (fun z9 => z9.2.2.2.2.2.2.2.2.2.2.2.2.2.2.2.2.2.2.2.2.2.1) h9
  rw [← e9]
  have e9 : (x1.2.2.2.2.2.2.2.2.2.2.2) = w21 := congrArg (fun z9 => z9.2.2.2.2.2.2.2.2.2.2.2.2.2.2.2.2.2.2.2.2.2.2.1) h9
  rw [← e9]
  have e9 : t_leaves = w22 := congrArg (fun z9 => z9.2.2.2.2.2.2.2.2.2.2.2.2.2.2.2.2.2.2.2.2.2.2.2.1) h9
  rw [← e9]
  have e9 : (x15.2) = w23 := congrArg (fun z9 => z9.2.2.2.2.2.2.2.2.2.2.2.2.2.2.2.2.2.2.2.2.2.2.2.2.1) h9
  rw [← e9]
  have e9 : t_splits = w24 := congrArg (fun z9 => z9.2.2.2.2.2.2.2.2.2.2.2.2.2.2.2.2.2.2.2.2.2.2.2.2.2.1) h9
  rw [← e9]
  have e9 : t_done = w25 := congrArg (fun z9 => z9.2.2.2.2.2.2.2.2.2.2.2.2.2.2.2.2.2.2.2.2.2.2.2.2.2.2) h9
  rw [← e9]
  exact k_iret hx hb hr hlocks hP hS rfl dX9_read_61

/-! X9_why -/
set_option maxHeartbeats 4000000 in
set_option maxRecDepth 100000 in
theorem c_X9_why (l : Launch) (G : va_G) (cI cJ cD cH : ClassId) (sz : Nat) (h_t : Nat) (h_t_layers : Nat) (h_t_powers : Nat) (h_t_tree : Nat) (h_t_ahead : Nat) (h_t_behind : Nat) (h_t_before : Nat) (h_t_rows : Nat) (h_t_met : Nat) (h_t_metSizes : Nat) (h_t_chosen : Nat) (h_t_tape : Nat) (h_t_toldPowers : Nat) (h_t_powerPlaces : Nat) (h_t_toldTree : Nat) (h_t_splitPlaces : Nat) (h_t_paper : Nat) (h_t_held : Nat) (h_t_numbers : Nat) (h_t_sizes : Nat) (h_t_heldLeaves : Nat) (h_t_items : Nat) (h_t_kept : Nat) (t_genus : Int32) (t_marks : Int32) (t_leaves : Int32) (t_splits : Int32) (t_done : Int32) (t_undone : Int32) (t_metMany : Int32) (t_treesSeen : Int32) (t_taped : Int32) (t_place : Int32) (t_isWrong : Int32) (t_toldGenus : Int32) (t_toldMarks : Int32) (t_isTree : Int32) (t_toldLeaves : Int32) (t_leavesPlace : Int32) (t_toldSplits : Int32) (t_isWhy : Int32) (t_papered : Int32) (t_isKept : Int32) (a_t_layers : Nat → Int32) (p0 : Int32) (p1 : Int32) (r0 : Int32) (hF : F_X9_why t_isWhy a_t_layers p0 p1 = some r0) : Met l yX9_why wsX9_why ({ frames := 1, cells := 0, slots := 0, locals := 25 }) (k_pre G (k_T cI cJ cD cH) [(h_t, .inr (8, [.int t_genus, .int t_marks, .ref h_t_powers, .int t_leaves, .int t_splits, .ref h_t_tree, .ref h_t_ahead, .ref h_t_behind, .ref h_t_before, .int t_done, .int t_undone, .ref h_t_rows, .ref h_t_met, .ref h_t_metSizes, .int t_metMany, .int t_treesSeen, .ref h_t_chosen, .ref h_t_tape, .int t_taped, .int t_place, .int t_isWrong, .int t_toldGenus, .int t_toldMarks, .ref h_t_toldPowers, .ref h_t_powerPlaces, .int t_isTree, .int t_toldLeaves, .int t_leavesPlace, .int t_toldSplits, .ref h_t_toldTree, .ref h_t_splitPlaces, .ref h_t_layers, .int t_isWhy, .ref h_t_paper, .int t_papered, .ref h_t_held, .ref h_t_numbers, .ref h_t_sizes, .ref h_t_heldLeaves, .ref h_t_items, .ref h_t_kept, .int t_isKept])), (h_t_layers, .inl (cI, 6, .inl a_t_layers))] sz [.ref h_t, .int p0, .int p1]) (va_Qi (fun r (_ : Unit) => r = r0 ∧ True) (fun _ t => va_P G vwCl [(h_t, .inr (8, [.int t_genus, .int t_marks, .ref h_t_powers, .int t_leaves, .int t_splits, .ref h_t_tree, .ref h_t_ahead, .ref h_t_behind, .ref h_t_before, .int t_done, .int t_undone, .ref h_t_rows, .ref h_t_met, .ref h_t_metSizes, .int t_metMany, .int t_treesSeen, .ref h_t_chosen, .ref h_t_tape, .int t_taped, .int t_place, .int t_isWrong, .int t_toldGenus, .int t_toldMarks, .ref h_t_toldPowers, .ref h_t_powerPlaces, .int t_isTree, .int t_toldLeaves, .int t_leavesPlace, .int t_toldSplits, .ref h_t_toldTree, .ref h_t_splitPlaces, .ref h_t_layers, .int t_isWhy, .ref h_t_paper, .int t_papered, .ref h_t_held, .ref h_t_numbers, .ref h_t_sizes, .ref h_t_heldLeaves, .ref h_t_items, .ref h_t_kept, .int t_isKept])), (h_t_layers, .inl (cI, 6, .inl a_t_layers))] t.heap) (va_A [(h_t, .inr (8, [.int t_genus, .int t_marks, .ref h_t_powers, .int t_leaves, .int t_splits, .ref h_t_tree, .ref h_t_ahead, .ref h_t_behind, .ref h_t_before, .int t_done, .int t_undone, .ref h_t_rows, .ref h_t_met, .ref h_t_metSizes, .int t_metMany, .int t_treesSeen, .ref h_t_chosen, .ref h_t_tape, .int t_taped, .int t_place, .int t_isWrong, .int t_toldGenus, .int t_toldMarks, .ref h_t_toldPowers, .ref h_t_powerPlaces, .int t_isTree, .int t_toldLeaves, .int t_leavesPlace, .int t_toldSplits, .ref h_t_toldTree, .ref h_t_splitPlaces, .ref h_t_layers, .int t_isWhy, .ref h_t_paper, .int t_papered, .ref h_t_held, .ref h_t_numbers, .ref h_t_sizes, .ref h_t_heldLeaves, .ref h_t_items, .ref h_t_kept, .int t_isKept])), (h_t_layers, .inl (cI, 6, .inl a_t_layers))] sz)) 0 0 (va_A [(h_t, .inr (8, [.int t_genus, .int t_marks, .ref h_t_powers, .int t_leaves, .int t_splits, .ref h_t_tree, .ref h_t_ahead, .ref h_t_behind, .ref h_t_before, .int t_done, .int t_undone, .ref h_t_rows, .ref h_t_met, .ref h_t_metSizes, .int t_metMany, .int t_treesSeen, .ref h_t_chosen, .ref h_t_tape, .int t_taped, .int t_place, .int t_isWrong, .int t_toldGenus, .int t_toldMarks, .ref h_t_toldPowers, .ref h_t_powerPlaces, .int t_isTree, .int t_toldLeaves, .int t_leavesPlace, .int t_toldSplits, .ref h_t_toldTree, .ref h_t_splitPlaces, .ref h_t_layers, .int t_isWhy, .ref h_t_paper, .int t_papered, .ref h_t_held, .ref h_t_numbers, .ref h_t_sizes, .ref h_t_heldLeaves, .ref h_t_items, .ref h_t_kept, .int t_isKept])), (h_t_layers, .inl (cI, 6, .inl a_t_layers))] sz) := by
  refine Met.ofW (cc := cX9_why) (maxL := 3) (ret := (some .int)) (by decide) rfl ?_
  intro p e s m args below meth c s₁ B hml hv
  obtain ⟨rfl, hsz, hP, hK, hD0⟩ := hv
  have hx := B.exec
  have hb := B.bytes
  have hr := B.returns
  have hts := atoms_spec (ws := wsX9_why) B.pre
  have hta : ∀ w ∈ wA, w.before ([.ref h_t, .int p0, .int p1] : List Value).toArray s = true := hta_of hts
  have hown : s.vm.findClass RX9 = some m.cls := findClass_of_methodNamed B.named
  have hlocks := B.notSynchronized
  subst hsz
  have hD := hD0.self (sz := s.heap.size)
  generalize hAe : va_A [(h_t, .inr (8, [.int t_genus, .int t_marks, .ref h_t_powers, .int t_leaves, .int t_splits, .ref h_t_tree, .ref h_t_ahead, .ref h_t_behind, .ref h_t_before, .int t_done, .int t_undone, .ref h_t_rows, .ref h_t_met, .ref h_t_metSizes, .int t_metMany, .int t_treesSeen, .ref h_t_chosen, .ref h_t_tape, .int t_taped, .int t_place, .int t_isWrong, .int t_toldGenus, .int t_toldMarks, .ref h_t_toldPowers, .ref h_t_powerPlaces, .int t_isTree, .int t_toldLeaves, .int t_leavesPlace, .int t_toldSplits, .ref h_t_toldTree, .ref h_t_splitPlaces, .ref h_t_layers, .int t_isWhy, .ref h_t_paper, .int t_papered, .ref h_t_held, .ref h_t_numbers, .ref h_t_sizes, .ref h_t_heldLeaves, .ref h_t_items, .ref h_t_kept, .int t_isKept])), (h_t_layers, .inl (cI, 6, .inl a_t_layers))] s.heap.size = A at hD ⊢
  have hA : ∀ q : Nat, s.heap.size ≤ q → A q := fun q h => by rw [← hAe]; exact Or.inr h
  have hS : va_S A s.heap s.heap [] := va_S.rf
  have hl := lv_entry ([.ref h_t, .int p0, .int p1]) (n := 3) (Nat.le_of_ble_eq_true rfl)
  rw [lg_entry_eq]
  generalize (lg_sl ([.ref h_t, .int p0, .int p1]) ++ List.replicate (3 - (lg_sl ([.ref h_t, .int p0, .int p1])).length) Slot.unset).toArray = ls at hl ⊢
  have hl : lv_has ls 3 [(0, .ref h_t), (1, .int p0), (2, .int p1)] := hl
  have hinX9 : ∀ w ∈ wsX90, w ∈ wsX9_why := hin_of in_X9
  have h := hF
  unfold F_X9_why at h
  refine lv_iload_n hx hb dX9_why_0 rfl (lv_at hl 1 rfl) ?_
  refine lv_i2l (v := p0.toInt64) hx hb dX9_why_1 (by first | rfl | decide) ?_
  refine lv_lconst (v := (0 : Int64)) hx hb dX9_why_2 (by decide) ?_
  refine lv_ldc2 (v := (2 : Int64)) hx hb hown (hta _ mw_660) dX9_why_3 ?_
  obtain ⟨x1, hx1, h⟩ := bd_e h
  try dsimp only at h
  refine k_SiU (n := 3) (As := [.long p0.toInt64, .long (0 : Int64), .long (2 : Int64)]) (rest := []) hx hb hml hown hts (c_X9_in l G cI cJ cD cH s.heap.size p0.toInt64 (0 : Int64) (2 : Int64) x1 hx1) gX9_why_X9_in rfl rfl rfl (by decide +kernel) ⟨by first | exact Nat.le_of_ble_eq_true rfl | (simp only [headSpec]; omega), by first | exact Nat.le_of_ble_eq_true rfl | (simp only [headSpec]; omega)⟩ hK hP hD hS hA [] (by decide) rfl rfl rfl hl.1 (Nat.le_of_ble_eq_true rfl) dX9_why_6 ⟨Nat.zero_le _, Nat.zero_le _⟩ (fun hp1 H locs hP hS => ?_)
  refine lv_if_eq (tgt := 22) hx hb dX9_why_9 (by decide) (fun c2 => ?_) (fun c2 => ?_)
  · have h := it_p h c2
    refine lv_iconst (v := (-1 : Int32)) hx hb dX9_why_22 (by decide) ?_
    have h9 := Option.some.inj h
    have e9 : (-1 : Int32) = r0 := congrArg (fun z9 => z9) h9
    rw [← e9]
    exact k_iret hx hb hr hlocks hP hS rfl dX9_why_23
  have h := it_n h c2
  refine lv_iload_n hx hb dX9_why_12 rfl (lv_at hl 2 rfl) ?_
  refine lv_i2l (v := p1.toInt64) hx hb dX9_why_13 (by first | rfl | decide) ?_
  refine lv_lconst (v := (0 : Int64)) hx hb dX9_why_14 (by decide) ?_
  refine lv_lconst (v := (1 : Int64)) hx hb dX9_why_15 (by decide) ?_
  obtain ⟨x3, hx3, h⟩ := bd_e h
  try dsimp only at h
  refine k_SiU (n := 3) (As := [.long p1.toInt64, .long (0 : Int64), .long (1 : Int64)]) (rest := []) hx hb hml hown hts (c_X9_in l G cI cJ cD cH H.size p1.toInt64 (0 : Int64) (1 : Int64) x3 hx3) gX9_why_X9_in rfl rfl rfl (by decide +kernel) ⟨by first | exact Nat.le_of_ble_eq_true rfl | (simp only [headSpec]; omega), by first | exact Nat.le_of_ble_eq_true rfl | (simp only [headSpec]; omega)⟩ hK hP hD hS hA [] (by decide) rfl rfl rfl hl.1 (Nat.le_of_ble_eq_true rfl) dX9_why_16 ⟨Nat.zero_le _, Nat.zero_le _⟩ (fun hp3 H locs hP hS => ?_)
  refine lv_if_ne (tgt := 24) hx hb dX9_why_19 (by decide) (fun c4 => ?_) (fun c4 => ?_)
  rotate_left
  · have h := it_p h c4
    refine lv_iconst (v := (-1 : Int32)) hx hb dX9_why_22 (by decide) ?_
    have h9 := Option.some.inj h
    have e9 : (-1 : Int32) = r0 := congrArg (fun z9 => z9) h9
    rw [← e9]
    exact k_iret hx hb hr hlocks hP hS rfl dX9_why_23
  have h := it_n h c4
  refine lv_aload_n hx hb dX9_why_24 rfl (lv_at hl 0 rfl) ?_
  refine va_get (D := G) (ci := 8) (v := .int t_isWhy) (C := RX9) (T := TX9) (N := 42) hx hb hts hinX9 hown hK hP 0 rfl rfl 32 (by decide) (hta _ mw_842) (fun _ h9 => h9) rfl dX9_why_25 ?_
  refine lv_if_eq (tgt := 44) hx hb dX9_why_28 (by decide) (fun c5 => ?_) (fun c5 => ?_)
  · have h := it_p h c5
    refine lv_bipush (v := (-2 : Int32)) hx hb dX9_why_44 (by decide) ?_
    have h9 := Option.some.inj h
    have e9 : (-2 : Int32) = r0 := congrArg (fun z9 => z9) h9
    rw [← e9]
    exact k_iret hx hb hr hlocks hP hS rfl dX9_why_46
  have h := it_n h c5
  refine lv_aload_n hx hb dX9_why_31 rfl (lv_at hl 0 rfl) ?_
  refine va_get (D := G) (ci := 8) (v := .ref h_t_layers) (C := RX9) (T := TX9) (N := 42) hx hb hts hinX9 hown hK hP 0 rfl rfl 31 (by decide) (hta _ mw_624) (fun _ h9 => h9) rfl dX9_why_32 ?_
  refine lv_iconst (v := (2 : Int32)) hx hb dX9_why_35 (by decide) ?_
  refine lv_iload_n hx hb dX9_why_36 rfl (lv_at hl 1 rfl) ?_
  refine lv_imul hx hb dX9_why_37 ?_
  refine lv_iload_n hx hb dX9_why_38 rfl (lv_at hl 2 rfl) ?_
  refine lv_iadd hx hb dX9_why_39 ?_
  obtain ⟨hn6, h⟩ := ck_e h
  refine va_iald hx hb hK hP 1 0 rfl rfl hn6 dX9_why_40 ?_
  refine lv_goto (tgt := 46) hx hb dX9_why_41 (by decide) ?_
  have h9 := Option.some.inj h
  have e9 : (a_t_layers (((2 : Int32) * p0) + p1).toNatClampNeg) = r0 := congrArg (fun z9 => z9) h9
  rw [← e9]
  exact k_iret hx hb hr hlocks hP hS rfl dX9_why_46

/-! X9_writes -/
set_option maxHeartbeats 4000000 in
set_option maxRecDepth 100000 in
theorem c_X9_writes (l : Launch) (G : va_G) (cI cJ cD cH : ClassId) (sz : Nat) (h_t : Nat) (h_t_paper : Nat) (h_t_powers : Nat) (h_t_tree : Nat) (h_t_ahead : Nat) (h_t_behind : Nat) (h_t_before : Nat) (h_t_rows : Nat) (h_t_met : Nat) (h_t_metSizes : Nat) (h_t_chosen : Nat) (h_t_tape : Nat) (h_t_toldPowers : Nat) (h_t_powerPlaces : Nat) (h_t_toldTree : Nat) (h_t_splitPlaces : Nat) (h_t_layers : Nat) (h_t_held : Nat) (h_t_numbers : Nat) (h_t_sizes : Nat) (h_t_heldLeaves : Nat) (h_t_items : Nat) (h_t_kept : Nat) (t_genus : Int32) (t_marks : Int32) (t_leaves : Int32) (t_splits : Int32) (t_done : Int32) (t_undone : Int32) (t_metMany : Int32) (t_treesSeen : Int32) (t_taped : Int32) (t_place : Int32) (t_isWrong : Int32) (t_toldGenus : Int32) (t_toldMarks : Int32) (t_isTree : Int32) (t_toldLeaves : Int32) (t_leavesPlace : Int32) (t_toldSplits : Int32) (t_isWhy : Int32) (t_papered : Int32) (t_isKept : Int32) (a_t_paper : Nat → Int32) (p0 : Int32) (w0 : Nat → Int32) (w1 : Int32) (hF : F_X9_writes t_papered a_t_paper p0 = some (w0, w1)) : Met l yX9_writes wsX9_writes ({ frames := 0, cells := 0, slots := 0, locals := 0 }) (k_pre G (k_T cI cJ cD cH) [(h_t, .inr (8, [.int t_genus, .int t_marks, .ref h_t_powers, .int t_leaves, .int t_splits, .ref h_t_tree, .ref h_t_ahead, .ref h_t_behind, .ref h_t_before, .int t_done, .int t_undone, .ref h_t_rows, .ref h_t_met, .ref h_t_metSizes, .int t_metMany, .int t_treesSeen, .ref h_t_chosen, .ref h_t_tape, .int t_taped, .int t_place, .int t_isWrong, .int t_toldGenus, .int t_toldMarks, .ref h_t_toldPowers, .ref h_t_powerPlaces, .int t_isTree, .int t_toldLeaves, .int t_leavesPlace, .int t_toldSplits, .ref h_t_toldTree, .ref h_t_splitPlaces, .ref h_t_layers, .int t_isWhy, .ref h_t_paper, .int t_papered, .ref h_t_held, .ref h_t_numbers, .ref h_t_sizes, .ref h_t_heldLeaves, .ref h_t_items, .ref h_t_kept, .int t_isKept])), (h_t_paper, .inl (cI, 80, .inl a_t_paper))] sz [.ref h_t, .int p0]) (va_Qv (fun (_ : Unit) => True) (fun _ t => va_P G vwCl [(h_t, .inr (8, [.int t_genus, .int t_marks, .ref h_t_powers, .int t_leaves, .int t_splits, .ref h_t_tree, .ref h_t_ahead, .ref h_t_behind, .ref h_t_before, .int t_done, .int t_undone, .ref h_t_rows, .ref h_t_met, .ref h_t_metSizes, .int t_metMany, .int t_treesSeen, .ref h_t_chosen, .ref h_t_tape, .int t_taped, .int t_place, .int t_isWrong, .int t_toldGenus, .int t_toldMarks, .ref h_t_toldPowers, .ref h_t_powerPlaces, .int t_isTree, .int t_toldLeaves, .int t_leavesPlace, .int t_toldSplits, .ref h_t_toldTree, .ref h_t_splitPlaces, .ref h_t_layers, .int t_isWhy, .ref h_t_paper, .int w1, .ref h_t_held, .ref h_t_numbers, .ref h_t_sizes, .ref h_t_heldLeaves, .ref h_t_items, .ref h_t_kept, .int t_isKept])), (h_t_paper, .inl (cI, 80, .inl w0))] t.heap) (va_A [(h_t, .inr (8, [.int t_genus, .int t_marks, .ref h_t_powers, .int t_leaves, .int t_splits, .ref h_t_tree, .ref h_t_ahead, .ref h_t_behind, .ref h_t_before, .int t_done, .int t_undone, .ref h_t_rows, .ref h_t_met, .ref h_t_metSizes, .int t_metMany, .int t_treesSeen, .ref h_t_chosen, .ref h_t_tape, .int t_taped, .int t_place, .int t_isWrong, .int t_toldGenus, .int t_toldMarks, .ref h_t_toldPowers, .ref h_t_powerPlaces, .int t_isTree, .int t_toldLeaves, .int t_leavesPlace, .int t_toldSplits, .ref h_t_toldTree, .ref h_t_splitPlaces, .ref h_t_layers, .int t_isWhy, .ref h_t_paper, .int t_papered, .ref h_t_held, .ref h_t_numbers, .ref h_t_sizes, .ref h_t_heldLeaves, .ref h_t_items, .ref h_t_kept, .int t_isKept])), (h_t_paper, .inl (cI, 80, .inl a_t_paper))] sz)) 0 0 (va_A [(h_t, .inr (8, [.int t_genus, .int t_marks, .ref h_t_powers, .int t_leaves, .int t_splits, .ref h_t_tree, .ref h_t_ahead, .ref h_t_behind, .ref h_t_before, .int t_done, .int t_undone, .ref h_t_rows, .ref h_t_met, .ref h_t_metSizes, .int t_metMany, .int t_treesSeen, .ref h_t_chosen, .ref h_t_tape, .int t_taped, .int t_place, .int t_isWrong, .int t_toldGenus, .int t_toldMarks, .ref h_t_toldPowers, .ref h_t_powerPlaces, .int t_isTree, .int t_toldLeaves, .int t_leavesPlace, .int t_toldSplits, .ref h_t_toldTree, .ref h_t_splitPlaces, .ref h_t_layers, .int t_isWhy, .ref h_t_paper, .int t_papered, .ref h_t_held, .ref h_t_numbers, .ref h_t_sizes, .ref h_t_heldLeaves, .ref h_t_items, .ref h_t_kept, .int t_isKept])), (h_t_paper, .inl (cI, 80, .inl a_t_paper))] sz) := by
  refine Met.ofW (cc := cX9_writes) (maxL := 2) (ret := none) (by decide) rfl ?_
  intro p e s m args below meth c s₁ B hml hv
  obtain ⟨rfl, hsz, hP, hK, hD0⟩ := hv
  have hx := B.exec
  have hb := B.bytes
  have hr := B.returns
  have hts := atoms_spec (ws := wsX9_writes) B.pre
  have hta : ∀ w ∈ wA, w.before ([.ref h_t, .int p0] : List Value).toArray s = true := hta_of hts
  have hown : s.vm.findClass RX9 = some m.cls := findClass_of_methodNamed B.named
  have hlocks := B.notSynchronized
  subst hsz
  have hD := hD0.self (sz := s.heap.size)
  generalize hAe : va_A [(h_t, .inr (8, [.int t_genus, .int t_marks, .ref h_t_powers, .int t_leaves, .int t_splits, .ref h_t_tree, .ref h_t_ahead, .ref h_t_behind, .ref h_t_before, .int t_done, .int t_undone, .ref h_t_rows, .ref h_t_met, .ref h_t_metSizes, .int t_metMany, .int t_treesSeen, .ref h_t_chosen, .ref h_t_tape, .int t_taped, .int t_place, .int t_isWrong, .int t_toldGenus, .int t_toldMarks, .ref h_t_toldPowers, .ref h_t_powerPlaces, .int t_isTree, .int t_toldLeaves, .int t_leavesPlace, .int t_toldSplits, .ref h_t_toldTree, .ref h_t_splitPlaces, .ref h_t_layers, .int t_isWhy, .ref h_t_paper, .int t_papered, .ref h_t_held, .ref h_t_numbers, .ref h_t_sizes, .ref h_t_heldLeaves, .ref h_t_items, .ref h_t_kept, .int t_isKept])), (h_t_paper, .inl (cI, 80, .inl a_t_paper))] s.heap.size = A at hD ⊢
  have hA : ∀ q : Nat, s.heap.size ≤ q → A q := fun q h => by rw [← hAe]; exact Or.inr h
  have hS : va_S A s.heap s.heap [] := va_S.rf
  have hl := lv_entry ([.ref h_t, .int p0]) (n := 2) (Nat.le_of_ble_eq_true rfl)
  rw [lg_entry_eq]
  generalize (lg_sl ([.ref h_t, .int p0]) ++ List.replicate (2 - (lg_sl ([.ref h_t, .int p0])).length) Slot.unset).toArray = ls at hl ⊢
  have hl : lv_has ls 2 [(0, .ref h_t), (1, .int p0)] := hl
  have hinX9 : ∀ w ∈ wsX90, w ∈ wsX9_writes := hin_of in_X9
  have h := hF
  unfold F_X9_writes at h
  refine lv_aload_n hx hb dX9_writes_0 rfl (lv_at hl 0 rfl) ?_
  refine va_get (D := G) (ci := 8) (v := .ref h_t_paper) (C := RX9) (T := TX9) (N := 42) hx hb hts hinX9 hown hK hP 0 rfl rfl 33 (by decide) (hta _ mw_625) (fun _ h9 => h9) rfl dX9_writes_1 ?_
  refine lv_aload_n hx hb dX9_writes_4 rfl (lv_at hl 0 rfl) ?_
  refine va_get (D := G) (ci := 8) (v := .int t_papered) (C := RX9) (T := TX9) (N := 42) hx hb hts hinX9 hown hK hP 0 rfl rfl 34 (by decide) (hta _ mw_855) (fun _ h9 => h9) rfl dX9_writes_5 ?_
  refine lv_iload_n hx hb dX9_writes_8 rfl (lv_at hl 1 rfl) ?_
  obtain ⟨hn1, h⟩ := ck_e h
  refine va_iast hx hb hK hP hD hS 1 0 rfl rfl hn1 dX9_writes_9 (fun H locs hP hD hS => ?_)
  have hP : va_P G vwCl [(h_t, .inr (8, [.int t_genus, .int t_marks, .ref h_t_powers, .int t_leaves, .int t_splits, .ref h_t_tree, .ref h_t_ahead, .ref h_t_behind, .ref h_t_before, .int t_done, .int t_undone, .ref h_t_rows, .ref h_t_met, .ref h_t_metSizes, .int t_metMany, .int t_treesSeen, .ref h_t_chosen, .ref h_t_tape, .int t_taped, .int t_place, .int t_isWrong, .int t_toldGenus, .int t_toldMarks, .ref h_t_toldPowers, .ref h_t_powerPlaces, .int t_isTree, .int t_toldLeaves, .int t_leavesPlace, .int t_toldSplits, .ref h_t_toldTree, .ref h_t_splitPlaces, .ref h_t_layers, .int t_isWhy, .ref h_t_paper, .int t_papered, .ref h_t_held, .ref h_t_numbers, .ref h_t_sizes, .ref h_t_heldLeaves, .ref h_t_items, .ref h_t_kept, .int t_isKept])), (h_t_paper, .inl (cI, 80, .inl (upd a_t_paper t_papered.toNatClampNeg p0)))] H := hP
  have hD : va_D A [(h_t, .inr (8, [.int t_genus, .int t_marks, .ref h_t_powers, .int t_leaves, .int t_splits, .ref h_t_tree, .ref h_t_ahead, .ref h_t_behind, .ref h_t_before, .int t_done, .int t_undone, .ref h_t_rows, .ref h_t_met, .ref h_t_metSizes, .int t_metMany, .int t_treesSeen, .ref h_t_chosen, .ref h_t_tape, .int t_taped, .int t_place, .int t_isWrong, .int t_toldGenus, .int t_toldMarks, .ref h_t_toldPowers, .ref h_t_powerPlaces, .int t_isTree, .int t_toldLeaves, .int t_leavesPlace, .int t_toldSplits, .ref h_t_toldTree, .ref h_t_splitPlaces, .ref h_t_layers, .int t_isWhy, .ref h_t_paper, .int t_papered, .ref h_t_held, .ref h_t_numbers, .ref h_t_sizes, .ref h_t_heldLeaves, .ref h_t_items, .ref h_t_kept, .int t_isKept])), (h_t_paper, .inl (cI, 80, .inl (upd a_t_paper t_papered.toNatClampNeg p0)))] := hD
  refine lv_aload_n hx hb dX9_writes_10 rfl (lv_at hl 0 rfl) ?_
  refine lv_dup hx hb dX9_writes_11 rfl ?_
  refine va_get (D := G) (ci := 8) (v := .int t_papered) (C := RX9) (T := TX9) (N := 42) hx hb hts hinX9 hown hK hP 0 rfl rfl 34 (by decide) (hta _ mw_855) (fun _ h9 => h9) rfl dX9_writes_12 ?_
  refine lv_iconst (v := (1 : Int32)) hx hb dX9_writes_15 (by decide) ?_
  refine lv_iadd hx hb dX9_writes_16 ?_
  refine va_put (D := G) (ci := 8) (v := .int (t_papered + (1 : Int32))) (ty := .int) (C := RX9) (T := TX9) (N := 42) hx hb hts hinX9 tyX9 tyX9_ok nmX9 hown hK hP hD hS 0 rfl rfl 34 (by decide) (hta _ mw_855) (fun _ h9 => h9) rfl (by decide +kernel) rfl rfl (Nat.le_of_ble_eq_true rfl) dX9_writes_17 (fun H locs hP hD hS => ?_)
  have hP : va_P G vwCl [(h_t, .inr (8, [.int t_genus, .int t_marks, .ref h_t_powers, .int t_leaves, .int t_splits, .ref h_t_tree, .ref h_t_ahead, .ref h_t_behind, .ref h_t_before, .int t_done, .int t_undone, .ref h_t_rows, .ref h_t_met, .ref h_t_metSizes, .int t_metMany, .int t_treesSeen, .ref h_t_chosen, .ref h_t_tape, .int t_taped, .int t_place, .int t_isWrong, .int t_toldGenus, .int t_toldMarks, .ref h_t_toldPowers, .ref h_t_powerPlaces, .int t_isTree, .int t_toldLeaves, .int t_leavesPlace, .int t_toldSplits, .ref h_t_toldTree, .ref h_t_splitPlaces, .ref h_t_layers, .int t_isWhy, .ref h_t_paper, .int (t_papered + (1 : Int32)), .ref h_t_held, .ref h_t_numbers, .ref h_t_sizes, .ref h_t_heldLeaves, .ref h_t_items, .ref h_t_kept, .int t_isKept])), (h_t_paper, .inl (cI, 80, .inl (upd a_t_paper t_papered.toNatClampNeg p0)))] H := hP
  have hD : va_D A [(h_t, .inr (8, [.int t_genus, .int t_marks, .ref h_t_powers, .int t_leaves, .int t_splits, .ref h_t_tree, .ref h_t_ahead, .ref h_t_behind, .ref h_t_before, .int t_done, .int t_undone, .ref h_t_rows, .ref h_t_met, .ref h_t_metSizes, .int t_metMany, .int t_treesSeen, .ref h_t_chosen, .ref h_t_tape, .int t_taped, .int t_place, .int t_isWrong, .int t_toldGenus, .int t_toldMarks, .ref h_t_toldPowers, .ref h_t_powerPlaces, .int t_isTree, .int t_toldLeaves, .int t_leavesPlace, .int t_toldSplits, .ref h_t_toldTree, .ref h_t_splitPlaces, .ref h_t_layers, .int t_isWhy, .ref h_t_paper, .int (t_papered + (1 : Int32)), .ref h_t_held, .ref h_t_numbers, .ref h_t_sizes, .ref h_t_heldLeaves, .ref h_t_items, .ref h_t_kept, .int t_isKept])), (h_t_paper, .inl (cI, 80, .inl (upd a_t_paper t_papered.toNatClampNeg p0)))] := hD
  have h9 := Option.some.inj h
  have e9 : (upd a_t_paper t_papered.toNatClampNeg p0) = w0 := congrArg (fun z9 => z9.1) h9
  rw [← e9]
  have e9 : (t_papered + (1 : Int32)) = w1 := congrArg (fun z9 => z9.2) h9
  rw [← e9]
  exact k_vret hx hb hr hlocks hP hS dX9_writes_20

/-! X9_spells -/
set_option maxHeartbeats 4000000 in
set_option maxRecDepth 100000 in
theorem tK_X9_spells_24_81 {l : Launch} {G : va_G} {cI cJ cD cH : ClassId} {h_t : Nat} {h_t_paper : Nat} {h_t_powers : Nat} {h_t_tree : Nat} {h_t_ahead : Nat} {h_t_behind : Nat} {h_t_before : Nat} {h_t_rows : Nat} {h_t_met : Nat} {h_t_metSizes : Nat} {h_t_chosen : Nat} {h_t_tape : Nat} {h_t_toldPowers : Nat} {h_t_powerPlaces : Nat} {h_t_toldTree : Nat} {h_t_splitPlaces : Nat} {h_t_layers : Nat} {h_t_held : Nat} {h_t_numbers : Nat} {h_t_sizes : Nat} {h_t_heldLeaves : Nat} {h_t_items : Nat} {h_t_kept : Nat} {t_genus : Int32} {t_marks : Int32} {t_leaves : Int32} {t_splits : Int32} {t_done : Int32} {t_undone : Int32} {t_metMany : Int32} {t_treesSeen : Int32} {t_taped : Int32} {t_place : Int32} {t_isWrong : Int32} {t_toldGenus : Int32} {t_toldMarks : Int32} {t_isTree : Int32} {t_toldLeaves : Int32} {t_leavesPlace : Int32} {t_toldSplits : Int32} {t_isWhy : Int32} {t_isKept : Int32} {a_t_powers : Nat → Int32} {a_t_tree : Nat → Int32} {w0 : Nat → Int32} {w1 : Int32} {p : Program} {e : Env} {s : State} {m : MethodId} {below : List Frame} {meth : Method} {c : Code} {A : Nat → Prop} (hx : p.tables.exec = Jvm.exec) (hb : c.code = cX9_spells) (hr : meth.sig.returnType = none) (hml : c.maxLocals = 3) (hts : ∀ w ∈ wsX9_spells, w.before ([.ref h_t] : List Value).toArray s = true) (hown : s.vm.findClass RX9 = some m.cls) (hlocks : meth.locks = false) (hK : va_K G vwCl (k_T cI cJ cD cH) s) (hA : ∀ q : Nat, s.heap.size ≤ q → A q) : ∀  (vK24_81_0 : Nat → Int32) (vK24_81_1 : Int32) (H : Heap) (locs : List Loc) (ls : Array Slot), va_P G vwCl [(h_t, .inr (8, [.int t_genus, .int t_marks, .ref h_t_powers, .int t_leaves, .int t_splits, .ref h_t_tree, .ref h_t_ahead, .ref h_t_behind, .ref h_t_before, .int t_done, .int t_undone, .ref h_t_rows, .ref h_t_met, .ref h_t_metSizes, .int t_metMany, .int t_treesSeen, .ref h_t_chosen, .ref h_t_tape, .int t_taped, .int t_place, .int t_isWrong, .int t_toldGenus, .int t_toldMarks, .ref h_t_toldPowers, .ref h_t_powerPlaces, .int t_isTree, .int t_toldLeaves, .int t_leavesPlace, .int t_toldSplits, .ref h_t_toldTree, .ref h_t_splitPlaces, .ref h_t_layers, .int t_isWhy, .ref h_t_paper, .int vK24_81_1, .ref h_t_held, .ref h_t_numbers, .ref h_t_sizes, .ref h_t_heldLeaves, .ref h_t_items, .ref h_t_kept, .int t_isKept])), (h_t_paper, .inl (cI, 80, .inl vK24_81_0)), (h_t_powers, .inl (cI, 8, .inl a_t_powers)), (h_t_tree, .inl (cI, 3, .inl a_t_tree))] H → va_D A [(h_t, .inr (8, [.int t_genus, .int t_marks, .ref h_t_powers, .int t_leaves, .int t_splits, .ref h_t_tree, .ref h_t_ahead, .ref h_t_behind, .ref h_t_before, .int t_done, .int t_undone, .ref h_t_rows, .ref h_t_met, .ref h_t_metSizes, .int t_metMany, .int t_treesSeen, .ref h_t_chosen, .ref h_t_tape, .int t_taped, .int t_place, .int t_isWrong, .int t_toldGenus, .int t_toldMarks, .ref h_t_toldPowers, .ref h_t_powerPlaces, .int t_isTree, .int t_toldLeaves, .int t_leavesPlace, .int t_toldSplits, .ref h_t_toldTree, .ref h_t_splitPlaces, .ref h_t_layers, .int t_isWhy, .ref h_t_paper, .int vK24_81_1, .ref h_t_held, .ref h_t_numbers, .ref h_t_sizes, .ref h_t_heldLeaves, .ref h_t_items, .ref h_t_kept, .int t_isKept])), (h_t_paper, .inl (cI, 80, .inl vK24_81_0)), (h_t_powers, .inl (cI, 8, .inl a_t_powers)), (h_t_tree, .inl (cI, 3, .inl a_t_tree))] → va_S A s.heap H locs → lv_has ls 3 [(0, .ref h_t)] → K_X9_spells_24_81 t_leaves t_splits a_t_tree vK24_81_0 vK24_81_1 = some (w0, w1) → W p l e (headSpec wsX9_spells ({ frames := 1, cells := 0, slots := 0, locals := 21 })).room s m ([.ref h_t] : List Value).toArray below meth c H locs 0 0 (MQ below (va_Qv (fun (_ : Unit) => True) (fun _ t => va_P G vwCl [(h_t, .inr (8, [.int t_genus, .int t_marks, .ref h_t_powers, .int t_leaves, .int t_splits, .ref h_t_tree, .ref h_t_ahead, .ref h_t_behind, .ref h_t_before, .int t_done, .int t_undone, .ref h_t_rows, .ref h_t_met, .ref h_t_metSizes, .int t_metMany, .int t_treesSeen, .ref h_t_chosen, .ref h_t_tape, .int t_taped, .int t_place, .int t_isWrong, .int t_toldGenus, .int t_toldMarks, .ref h_t_toldPowers, .ref h_t_powerPlaces, .int t_isTree, .int t_toldLeaves, .int t_leavesPlace, .int t_toldSplits, .ref h_t_toldTree, .ref h_t_splitPlaces, .ref h_t_layers, .int t_isWhy, .ref h_t_paper, .int w1, .ref h_t_held, .ref h_t_numbers, .ref h_t_sizes, .ref h_t_heldLeaves, .ref h_t_items, .ref h_t_kept, .int t_isKept])), (h_t_paper, .inl (cI, 80, .inl w0)), (h_t_powers, .inl (cI, 8, .inl a_t_powers)), (h_t_tree, .inl (cI, 3, .inl a_t_tree))] t.heap) A) ([.ref h_t] : List Value).toArray s 0 0 A) (F0 m 81 ls []) := by
  have hta : ∀ w ∈ wA, w.before ([.ref h_t] : List Value).toArray s = true := hta_of hts
  have hinX9 : ∀ w ∈ wsX90, w ∈ wsX9_spells := hin_of in_X9
  intro vK24_81_0 vK24_81_1 H locs ls hP hD hS hl h
  unfold K_X9_spells_24_81 at h
  refine lv_aload_n hx hb dX9_spells_81 rfl (lv_at hl 0 rfl) ?_
  refine lv_bipush (v := (47 : Int32)) hx hb dX9_spells_82 (by decide) ?_
  obtain ⟨x3, hx3, h⟩ := bd_e h
  try dsimp only at h
  refine k_VvM (n := 1) (As := [.int (47 : Int32)]) (rest := []) hx hb hml hown hts (c_X9_writes l G cI cJ cD cH H.size h_t h_t_paper h_t_powers h_t_tree h_t_ahead h_t_behind h_t_before h_t_rows h_t_met h_t_metSizes h_t_chosen h_t_tape h_t_toldPowers h_t_powerPlaces h_t_toldTree h_t_splitPlaces h_t_layers h_t_held h_t_numbers h_t_sizes h_t_heldLeaves h_t_items h_t_kept t_genus t_marks t_leaves t_splits t_done t_undone t_metMany t_treesSeen t_taped t_place t_isWrong t_toldGenus t_toldMarks t_isTree t_toldLeaves t_leavesPlace t_toldSplits t_isWhy vK24_81_1 t_isKept vK24_81_0 (47 : Int32) (x3.1) (x3.2) hx3) gX9_spells_X9_writes rfl rfl rfl (by decide +kernel) ⟨by first | exact Nat.le_of_ble_eq_true rfl | (simp only [headSpec]; omega), by first | exact Nat.le_of_ble_eq_true rfl | (simp only [headSpec]; omega)⟩ hK hP hD hS hA [0, 1] (by decide) rfl rfl (ci := 8) rfl rfl rfl rfl rfl hl.1 (Nat.le_of_ble_eq_true rfl) dX9_spells_84 ⟨Nat.zero_le _, Nat.zero_le _⟩ [(h_t, .inr (8, [.int t_genus, .int t_marks, .ref h_t_powers, .int t_leaves, .int t_splits, .ref h_t_tree, .ref h_t_ahead, .ref h_t_behind, .ref h_t_before, .int t_done, .int t_undone, .ref h_t_rows, .ref h_t_met, .ref h_t_metSizes, .int t_metMany, .int t_treesSeen, .ref h_t_chosen, .ref h_t_tape, .int t_taped, .int t_place, .int t_isWrong, .int t_toldGenus, .int t_toldMarks, .ref h_t_toldPowers, .ref h_t_powerPlaces, .int t_isTree, .int t_toldLeaves, .int t_leavesPlace, .int t_toldSplits, .ref h_t_toldTree, .ref h_t_splitPlaces, .ref h_t_layers, .int t_isWhy, .ref h_t_paper, .int (x3.2), .ref h_t_held, .ref h_t_numbers, .ref h_t_sizes, .ref h_t_heldLeaves, .ref h_t_items, .ref h_t_kept, .int t_isKept])), (h_t_paper, .inl (cI, 80, .inl (x3.1))), (h_t_powers, .inl (cI, 8, .inl a_t_powers)), (h_t_tree, .inl (cI, 3, .inl a_t_tree))] [1, 2, 0, 0] 2 (by decide +kernel) rfl rfl rfl (fun hp3 H locs hP hD hS => ?_)
  refine lv_aload_n hx hb dX9_spells_87 rfl (lv_at hl 0 rfl) ?_
  refine lv_bipush (v := (48 : Int32)) hx hb dX9_spells_88 (by decide) ?_
  refine lv_aload_n hx hb dX9_spells_90 rfl (lv_at hl 0 rfl) ?_
  refine va_get (D := G) (ci := 8) (v := .int t_leaves) (C := RX9) (T := TX9) (N := 42) hx hb hts hinX9 hown hK hP 0 rfl rfl 3 (by decide) (hta _ mw_609) (fun _ h9 => h9) rfl dX9_spells_91 ?_
  refine lv_iadd hx hb dX9_spells_94 ?_
  obtain ⟨x4, hx4, h⟩ := bd_e h
  try dsimp only at h
  refine k_VvM (n := 1) (As := [.int ((48 : Int32) + t_leaves)]) (rest := []) hx hb hml hown hts (c_X9_writes l G cI cJ cD cH H.size h_t h_t_paper h_t_powers h_t_tree h_t_ahead h_t_behind h_t_before h_t_rows h_t_met h_t_metSizes h_t_chosen h_t_tape h_t_toldPowers h_t_powerPlaces h_t_toldTree h_t_splitPlaces h_t_layers h_t_held h_t_numbers h_t_sizes h_t_heldLeaves h_t_items h_t_kept t_genus t_marks t_leaves t_splits t_done t_undone t_metMany t_treesSeen t_taped t_place t_isWrong t_toldGenus t_toldMarks t_isTree t_toldLeaves t_leavesPlace t_toldSplits t_isWhy (x3.2) t_isKept (x3.1) ((48 : Int32) + t_leaves) (x4.1) (x4.2) hx4) gX9_spells_X9_writes rfl rfl rfl (by decide +kernel) ⟨by first | exact Nat.le_of_ble_eq_true rfl | (simp only [headSpec]; omega), by first | exact Nat.le_of_ble_eq_true rfl | (simp only [headSpec]; omega)⟩ hK hP hD hS hA [0, 1] (by decide) rfl rfl (ci := 8) rfl rfl rfl rfl rfl hl.1 (Nat.le_of_ble_eq_true rfl) dX9_spells_95 ⟨Nat.zero_le _, Nat.zero_le _⟩ [(h_t, .inr (8, [.int t_genus, .int t_marks, .ref h_t_powers, .int t_leaves, .int t_splits, .ref h_t_tree, .ref h_t_ahead, .ref h_t_behind, .ref h_t_before, .int t_done, .int t_undone, .ref h_t_rows, .ref h_t_met, .ref h_t_metSizes, .int t_metMany, .int t_treesSeen, .ref h_t_chosen, .ref h_t_tape, .int t_taped, .int t_place, .int t_isWrong, .int t_toldGenus, .int t_toldMarks, .ref h_t_toldPowers, .ref h_t_powerPlaces, .int t_isTree, .int t_toldLeaves, .int t_leavesPlace, .int t_toldSplits, .ref h_t_toldTree, .ref h_t_splitPlaces, .ref h_t_layers, .int t_isWhy, .ref h_t_paper, .int (x4.2), .ref h_t_held, .ref h_t_numbers, .ref h_t_sizes, .ref h_t_heldLeaves, .ref h_t_items, .ref h_t_kept, .int t_isKept])), (h_t_paper, .inl (cI, 80, .inl (x4.1))), (h_t_powers, .inl (cI, 8, .inl a_t_powers)), (h_t_tree, .inl (cI, 3, .inl a_t_tree))] [1, 2, 0, 0] 2 (by decide +kernel) rfl rfl rfl (fun hp4 H locs hP hD hS => ?_)
  refine lv_iconst (v := (0 : Int32)) hx hb dX9_spells_98 (by decide) ?_
  refine lv_istore_n (lv' := [(1, .int (0 : Int32)), (0, .ref h_t)]) hx hb dX9_spells_99 rfl hl (by decide) rfl (fun ls hl => ?_)
  have hK_X9_spells_100_158 : ∀  (vK100_158_0 : Nat → Int32) (vK100_158_1 : Int32) (H : Heap) (locs : List Loc) (ls : Array Slot), va_P G vwCl [(h_t, .inr (8, [.int t_genus, .int t_marks, .ref h_t_powers, .int t_leaves, .int t_splits, .ref h_t_tree, .ref h_t_ahead, .ref h_t_behind, .ref h_t_before, .int t_done, .int t_undone, .ref h_t_rows, .ref h_t_met, .ref h_t_metSizes, .int t_metMany, .int t_treesSeen, .ref h_t_chosen, .ref h_t_tape, .int t_taped, .int t_place, .int t_isWrong, .int t_toldGenus, .int t_toldMarks, .ref h_t_toldPowers, .ref h_t_powerPlaces, .int t_isTree, .int t_toldLeaves, .int t_leavesPlace, .int t_toldSplits, .ref h_t_toldTree, .ref h_t_splitPlaces, .ref h_t_layers, .int t_isWhy, .ref h_t_paper, .int vK100_158_1, .ref h_t_held, .ref h_t_numbers, .ref h_t_sizes, .ref h_t_heldLeaves, .ref h_t_items, .ref h_t_kept, .int t_isKept])), (h_t_paper, .inl (cI, 80, .inl vK100_158_0)), (h_t_powers, .inl (cI, 8, .inl a_t_powers)), (h_t_tree, .inl (cI, 3, .inl a_t_tree))] H → va_D A [(h_t, .inr (8, [.int t_genus, .int t_marks, .ref h_t_powers, .int t_leaves, .int t_splits, .ref h_t_tree, .ref h_t_ahead, .ref h_t_behind, .ref h_t_before, .int t_done, .int t_undone, .ref h_t_rows, .ref h_t_met, .ref h_t_metSizes, .int t_metMany, .int t_treesSeen, .ref h_t_chosen, .ref h_t_tape, .int t_taped, .int t_place, .int t_isWrong, .int t_toldGenus, .int t_toldMarks, .ref h_t_toldPowers, .ref h_t_powerPlaces, .int t_isTree, .int t_toldLeaves, .int t_leavesPlace, .int t_toldSplits, .ref h_t_toldTree, .ref h_t_splitPlaces, .ref h_t_layers, .int t_isWhy, .ref h_t_paper, .int vK100_158_1, .ref h_t_held, .ref h_t_numbers, .ref h_t_sizes, .ref h_t_heldLeaves, .ref h_t_items, .ref h_t_kept, .int t_isKept])), (h_t_paper, .inl (cI, 80, .inl vK100_158_0)), (h_t_powers, .inl (cI, 8, .inl a_t_powers)), (h_t_tree, .inl (cI, 3, .inl a_t_tree))] → va_S A s.heap H locs → lv_has ls 3 [] → K_X9_spells_100_158 vK100_158_0 vK100_158_1 = some (w0, w1) → W p l e (headSpec wsX9_spells ({ frames := 1, cells := 0, slots := 0, locals := 21 })).room s m ([.ref h_t] : List Value).toArray below meth c H locs 0 0 (MQ below (va_Qv (fun (_ : Unit) => True) (fun _ t => va_P G vwCl [(h_t, .inr (8, [.int t_genus, .int t_marks, .ref h_t_powers, .int t_leaves, .int t_splits, .ref h_t_tree, .ref h_t_ahead, .ref h_t_behind, .ref h_t_before, .int t_done, .int t_undone, .ref h_t_rows, .ref h_t_met, .ref h_t_metSizes, .int t_metMany, .int t_treesSeen, .ref h_t_chosen, .ref h_t_tape, .int t_taped, .int t_place, .int t_isWrong, .int t_toldGenus, .int t_toldMarks, .ref h_t_toldPowers, .ref h_t_powerPlaces, .int t_isTree, .int t_toldLeaves, .int t_leavesPlace, .int t_toldSplits, .ref h_t_toldTree, .ref h_t_splitPlaces, .ref h_t_layers, .int t_isWhy, .ref h_t_paper, .int w1, .ref h_t_held, .ref h_t_numbers, .ref h_t_sizes, .ref h_t_heldLeaves, .ref h_t_items, .ref h_t_kept, .int t_isKept])), (h_t_paper, .inl (cI, 80, .inl w0)), (h_t_powers, .inl (cI, 8, .inl a_t_powers)), (h_t_tree, .inl (cI, 3, .inl a_t_tree))] t.heap) A) ([.ref h_t] : List Value).toArray s 0 0 A) (F0 m 158 ls []) := by
    intro vK100_158_0 vK100_158_1 H locs ls hP hD hS hl h
    unfold K_X9_spells_100_158 at h
    have h9 := Option.some.inj h
    have e9 : vK100_158_0 = w0 := congrArg (fun z9 => z9.1) h9
    rw [← e9]
    have e9 : vK100_158_1 = w1 := congrArg (fun z9 => z9.2) h9
    rw [← e9]
    exact k_vret hx hb hr hlocks hP hS dX9_spells_158
  have hL100 : ∀ (n100 : Nat) (vL100_0 : Nat → Int32) (vL100_1 : Int32) (vL100_2 : Int32) (H : Heap) (locs : List Loc) (ls : Array Slot), va_P G vwCl [(h_t, .inr (8, [.int t_genus, .int t_marks, .ref h_t_powers, .int t_leaves, .int t_splits, .ref h_t_tree, .ref h_t_ahead, .ref h_t_behind, .ref h_t_before, .int t_done, .int t_undone, .ref h_t_rows, .ref h_t_met, .ref h_t_metSizes, .int t_metMany, .int t_treesSeen, .ref h_t_chosen, .ref h_t_tape, .int t_taped, .int t_place, .int t_isWrong, .int t_toldGenus, .int t_toldMarks, .ref h_t_toldPowers, .ref h_t_powerPlaces, .int t_isTree, .int t_toldLeaves, .int t_leavesPlace, .int t_toldSplits, .ref h_t_toldTree, .ref h_t_splitPlaces, .ref h_t_layers, .int t_isWhy, .ref h_t_paper, .int vL100_1, .ref h_t_held, .ref h_t_numbers, .ref h_t_sizes, .ref h_t_heldLeaves, .ref h_t_items, .ref h_t_kept, .int t_isKept])), (h_t_paper, .inl (cI, 80, .inl vL100_0)), (h_t_powers, .inl (cI, 8, .inl a_t_powers)), (h_t_tree, .inl (cI, 3, .inl a_t_tree))] H → va_D A [(h_t, .inr (8, [.int t_genus, .int t_marks, .ref h_t_powers, .int t_leaves, .int t_splits, .ref h_t_tree, .ref h_t_ahead, .ref h_t_behind, .ref h_t_before, .int t_done, .int t_undone, .ref h_t_rows, .ref h_t_met, .ref h_t_metSizes, .int t_metMany, .int t_treesSeen, .ref h_t_chosen, .ref h_t_tape, .int t_taped, .int t_place, .int t_isWrong, .int t_toldGenus, .int t_toldMarks, .ref h_t_toldPowers, .ref h_t_powerPlaces, .int t_isTree, .int t_toldLeaves, .int t_leavesPlace, .int t_toldSplits, .ref h_t_toldTree, .ref h_t_splitPlaces, .ref h_t_layers, .int t_isWhy, .ref h_t_paper, .int vL100_1, .ref h_t_held, .ref h_t_numbers, .ref h_t_sizes, .ref h_t_heldLeaves, .ref h_t_items, .ref h_t_kept, .int t_isKept])), (h_t_paper, .inl (cI, 80, .inl vL100_0)), (h_t_powers, .inl (cI, 8, .inl a_t_powers)), (h_t_tree, .inl (cI, 3, .inl a_t_tree))] → va_S A s.heap H locs → lv_has ls 3 [(0, .ref h_t), (1, .int vL100_2)] → wq3 (B_X9_spells_100 t_leaves t_splits a_t_tree K_X9_spells_100_158) n100 vL100_0 vL100_1 vL100_2 = some (w0, w1) → W p l e (headSpec wsX9_spells ({ frames := 1, cells := 0, slots := 0, locals := 21 })).room s m ([.ref h_t] : List Value).toArray below meth c H locs 0 0 (MQ below (va_Qv (fun (_ : Unit) => True) (fun _ t => va_P G vwCl [(h_t, .inr (8, [.int t_genus, .int t_marks, .ref h_t_powers, .int t_leaves, .int t_splits, .ref h_t_tree, .ref h_t_ahead, .ref h_t_behind, .ref h_t_before, .int t_done, .int t_undone, .ref h_t_rows, .ref h_t_met, .ref h_t_metSizes, .int t_metMany, .int t_treesSeen, .ref h_t_chosen, .ref h_t_tape, .int t_taped, .int t_place, .int t_isWrong, .int t_toldGenus, .int t_toldMarks, .ref h_t_toldPowers, .ref h_t_powerPlaces, .int t_isTree, .int t_toldLeaves, .int t_leavesPlace, .int t_toldSplits, .ref h_t_toldTree, .ref h_t_splitPlaces, .ref h_t_layers, .int t_isWhy, .ref h_t_paper, .int w1, .ref h_t_held, .ref h_t_numbers, .ref h_t_sizes, .ref h_t_heldLeaves, .ref h_t_items, .ref h_t_kept, .int t_isKept])), (h_t_paper, .inl (cI, 80, .inl w0)), (h_t_powers, .inl (cI, 8, .inl a_t_powers)), (h_t_tree, .inl (cI, 3, .inl a_t_tree))] t.heap) A) ([.ref h_t] : List Value).toArray s 0 0 A) (F0 m 100 ls []) := by
    intro n100
    induction n100 with
    | zero => intro vL100_0 vL100_1 vL100_2 H locs ls hP hD hS hl h; exact wq3_0 h
    | succ n100 ih100 =>
      intro vL100_0 vL100_1 vL100_2 H locs ls hP hD hS hl h
      have h := wq3_s h
      unfold B_X9_spells_100 at h
      refine lv_iload_n hx hb dX9_spells_100 rfl (lv_at hl 1 rfl) ?_
      refine lv_aload_n hx hb dX9_spells_101 rfl (lv_at hl 0 rfl) ?_
      refine va_get (D := G) (ci := 8) (v := .int t_splits) (C := RX9) (T := TX9) (N := 42) hx hb hts hinX9 hown hK hP 0 rfl rfl 4 (by decide) (hta _ mw_642) (fun _ h9 => h9) rfl dX9_spells_102 ?_
      refine lv_icmp_ge (tgt := 158) hx hb dX9_spells_105 (by decide) (fun c5 => ?_) (fun c5 => ?_)
      · have h := it_p h c5
        exact hK_X9_spells_100_158 vL100_0 vL100_1 _ _ _ hP hD hS (lv_sub hl [] rfl) h
      have h := it_n h c5
      refine lv_aload_n hx hb dX9_spells_108 rfl (lv_at hl 0 rfl) ?_
      refine lv_bipush (v := (59 : Int32)) hx hb dX9_spells_109 (by decide) ?_
      obtain ⟨x6, hx6, h⟩ := bd_e h
      try dsimp only at h
      refine k_VvM (n := 1) (As := [.int (59 : Int32)]) (rest := []) hx hb hml hown hts (c_X9_writes l G cI cJ cD cH H.size h_t h_t_paper h_t_powers h_t_tree h_t_ahead h_t_behind h_t_before h_t_rows h_t_met h_t_metSizes h_t_chosen h_t_tape h_t_toldPowers h_t_powerPlaces h_t_toldTree h_t_splitPlaces h_t_layers h_t_held h_t_numbers h_t_sizes h_t_heldLeaves h_t_items h_t_kept t_genus t_marks t_leaves t_splits t_done t_undone t_metMany t_treesSeen t_taped t_place t_isWrong t_toldGenus t_toldMarks t_isTree t_toldLeaves t_leavesPlace t_toldSplits t_isWhy vL100_1 t_isKept vL100_0 (59 : Int32) (x6.1) (x6.2) hx6) gX9_spells_X9_writes rfl rfl rfl (by decide +kernel) ⟨by first | exact Nat.le_of_ble_eq_true rfl | (simp only [headSpec]; omega), by first | exact Nat.le_of_ble_eq_true rfl | (simp only [headSpec]; omega)⟩ hK hP hD hS hA [0, 1] (by decide) rfl rfl (ci := 8) rfl rfl rfl rfl rfl hl.1 (Nat.le_of_ble_eq_true rfl) dX9_spells_111 ⟨Nat.zero_le _, Nat.zero_le _⟩ [(h_t, .inr (8, [.int t_genus, .int t_marks, .ref h_t_powers, .int t_leaves, .int t_splits, .ref h_t_tree, .ref h_t_ahead, .ref h_t_behind, .ref h_t_before, .int t_done, .int t_undone, .ref h_t_rows, .ref h_t_met, .ref h_t_metSizes, .int t_metMany, .int t_treesSeen, .ref h_t_chosen, .ref h_t_tape, .int t_taped, .int t_place, .int t_isWrong, .int t_toldGenus, .int t_toldMarks, .ref h_t_toldPowers, .ref h_t_powerPlaces, .int t_isTree, .int t_toldLeaves, .int t_leavesPlace, .int t_toldSplits, .ref h_t_toldTree, .ref h_t_splitPlaces, .ref h_t_layers, .int t_isWhy, .ref h_t_paper, .int (x6.2), .ref h_t_held, .ref h_t_numbers, .ref h_t_sizes, .ref h_t_heldLeaves, .ref h_t_items, .ref h_t_kept, .int t_isKept])), (h_t_paper, .inl (cI, 80, .inl (x6.1))), (h_t_powers, .inl (cI, 8, .inl a_t_powers)), (h_t_tree, .inl (cI, 3, .inl a_t_tree))] [1, 2, 0, 0] 2 (by decide +kernel) rfl rfl rfl (fun hp6 H locs hP hD hS => ?_)
      refine lv_iconst (v := (0 : Int32)) hx hb dX9_spells_114 (by decide) ?_
      refine lv_istore_n (lv' := [(2, .int (0 : Int32)), (0, .ref h_t), (1, .int vL100_2)]) hx hb dX9_spells_115 rfl hl (by decide) rfl (fun ls hl => ?_)
      have hK_X9_spells_116_152 : ∀  (vK116_152_0 : Nat → Int32) (vK116_152_1 : Int32) (H : Heap) (locs : List Loc) (ls : Array Slot), va_P G vwCl [(h_t, .inr (8, [.int t_genus, .int t_marks, .ref h_t_powers, .int t_leaves, .int t_splits, .ref h_t_tree, .ref h_t_ahead, .ref h_t_behind, .ref h_t_before, .int t_done, .int t_undone, .ref h_t_rows, .ref h_t_met, .ref h_t_metSizes, .int t_metMany, .int t_treesSeen, .ref h_t_chosen, .ref h_t_tape, .int t_taped, .int t_place, .int t_isWrong, .int t_toldGenus, .int t_toldMarks, .ref h_t_toldPowers, .ref h_t_powerPlaces, .int t_isTree, .int t_toldLeaves, .int t_leavesPlace, .int t_toldSplits, .ref h_t_toldTree, .ref h_t_splitPlaces, .ref h_t_layers, .int t_isWhy, .ref h_t_paper, .int vK116_152_1, .ref h_t_held, .ref h_t_numbers, .ref h_t_sizes, .ref h_t_heldLeaves, .ref h_t_items, .ref h_t_kept, .int t_isKept])), (h_t_paper, .inl (cI, 80, .inl vK116_152_0)), (h_t_powers, .inl (cI, 8, .inl a_t_powers)), (h_t_tree, .inl (cI, 3, .inl a_t_tree))] H → va_D A [(h_t, .inr (8, [.int t_genus, .int t_marks, .ref h_t_powers, .int t_leaves, .int t_splits, .ref h_t_tree, .ref h_t_ahead, .ref h_t_behind, .ref h_t_before, .int t_done, .int t_undone, .ref h_t_rows, .ref h_t_met, .ref h_t_metSizes, .int t_metMany, .int t_treesSeen, .ref h_t_chosen, .ref h_t_tape, .int t_taped, .int t_place, .int t_isWrong, .int t_toldGenus, .int t_toldMarks, .ref h_t_toldPowers, .ref h_t_powerPlaces, .int t_isTree, .int t_toldLeaves, .int t_leavesPlace, .int t_toldSplits, .ref h_t_toldTree, .ref h_t_splitPlaces, .ref h_t_layers, .int t_isWhy, .ref h_t_paper, .int vK116_152_1, .ref h_t_held, .ref h_t_numbers, .ref h_t_sizes, .ref h_t_heldLeaves, .ref h_t_items, .ref h_t_kept, .int t_isKept])), (h_t_paper, .inl (cI, 80, .inl vK116_152_0)), (h_t_powers, .inl (cI, 8, .inl a_t_powers)), (h_t_tree, .inl (cI, 3, .inl a_t_tree))] → va_S A s.heap H locs → lv_has ls 3 [(0, .ref h_t), (1, .int vL100_2)] → K_X9_spells_116_152 vL100_2 (wq3 (B_X9_spells_100 t_leaves t_splits a_t_tree K_X9_spells_100_158) n100) vK116_152_0 vK116_152_1 = some (w0, w1) → W p l e (headSpec wsX9_spells ({ frames := 1, cells := 0, slots := 0, locals := 21 })).room s m ([.ref h_t] : List Value).toArray below meth c H locs 0 0 (MQ below (va_Qv (fun (_ : Unit) => True) (fun _ t => va_P G vwCl [(h_t, .inr (8, [.int t_genus, .int t_marks, .ref h_t_powers, .int t_leaves, .int t_splits, .ref h_t_tree, .ref h_t_ahead, .ref h_t_behind, .ref h_t_before, .int t_done, .int t_undone, .ref h_t_rows, .ref h_t_met, .ref h_t_metSizes, .int t_metMany, .int t_treesSeen, .ref h_t_chosen, .ref h_t_tape, .int t_taped, .int t_place, .int t_isWrong, .int t_toldGenus, .int t_toldMarks, .ref h_t_toldPowers, .ref h_t_powerPlaces, .int t_isTree, .int t_toldLeaves, .int t_leavesPlace, .int t_toldSplits, .ref h_t_toldTree, .ref h_t_splitPlaces, .ref h_t_layers, .int t_isWhy, .ref h_t_paper, .int w1, .ref h_t_held, .ref h_t_numbers, .ref h_t_sizes, .ref h_t_heldLeaves, .ref h_t_items, .ref h_t_kept, .int t_isKept])), (h_t_paper, .inl (cI, 80, .inl w0)), (h_t_powers, .inl (cI, 8, .inl a_t_powers)), (h_t_tree, .inl (cI, 3, .inl a_t_tree))] t.heap) A) ([.ref h_t] : List Value).toArray s 0 0 A) (F0 m 152 ls []) := by
        intro vK116_152_0 vK116_152_1 H locs ls hP hD hS hl h
        unfold K_X9_spells_116_152 at h
        refine lv_iinc (v := (vL100_2 + (1 : Int32))) (lv' := [(1, .int (vL100_2 + (1 : Int32))), (0, .ref h_t)]) hx hb dX9_spells_152 hl (k := 1) rfl (by first | rfl | decide) (by decide) rfl (fun ls hl => ?_)
        refine lv_goto (tgt := 100) hx hb dX9_spells_155 (by decide) ?_
        exact ih100 vK116_152_0 vK116_152_1 (vL100_2 + (1 : Int32)) _ _ _ hP hD hS (lv_sub hl [1, 0] rfl) h
      have hL116 : ∀ (n116 : Nat) (vL116_0 : Nat → Int32) (vL116_1 : Int32) (vL116_2 : Int32) (H : Heap) (locs : List Loc) (ls : Array Slot), va_P G vwCl [(h_t, .inr (8, [.int t_genus, .int t_marks, .ref h_t_powers, .int t_leaves, .int t_splits, .ref h_t_tree, .ref h_t_ahead, .ref h_t_behind, .ref h_t_before, .int t_done, .int t_undone, .ref h_t_rows, .ref h_t_met, .ref h_t_metSizes, .int t_metMany, .int t_treesSeen, .ref h_t_chosen, .ref h_t_tape, .int t_taped, .int t_place, .int t_isWrong, .int t_toldGenus, .int t_toldMarks, .ref h_t_toldPowers, .ref h_t_powerPlaces, .int t_isTree, .int t_toldLeaves, .int t_leavesPlace, .int t_toldSplits, .ref h_t_toldTree, .ref h_t_splitPlaces, .ref h_t_layers, .int t_isWhy, .ref h_t_paper, .int vL116_1, .ref h_t_held, .ref h_t_numbers, .ref h_t_sizes, .ref h_t_heldLeaves, .ref h_t_items, .ref h_t_kept, .int t_isKept])), (h_t_paper, .inl (cI, 80, .inl vL116_0)), (h_t_powers, .inl (cI, 8, .inl a_t_powers)), (h_t_tree, .inl (cI, 3, .inl a_t_tree))] H → va_D A [(h_t, .inr (8, [.int t_genus, .int t_marks, .ref h_t_powers, .int t_leaves, .int t_splits, .ref h_t_tree, .ref h_t_ahead, .ref h_t_behind, .ref h_t_before, .int t_done, .int t_undone, .ref h_t_rows, .ref h_t_met, .ref h_t_metSizes, .int t_metMany, .int t_treesSeen, .ref h_t_chosen, .ref h_t_tape, .int t_taped, .int t_place, .int t_isWrong, .int t_toldGenus, .int t_toldMarks, .ref h_t_toldPowers, .ref h_t_powerPlaces, .int t_isTree, .int t_toldLeaves, .int t_leavesPlace, .int t_toldSplits, .ref h_t_toldTree, .ref h_t_splitPlaces, .ref h_t_layers, .int t_isWhy, .ref h_t_paper, .int vL116_1, .ref h_t_held, .ref h_t_numbers, .ref h_t_sizes, .ref h_t_heldLeaves, .ref h_t_items, .ref h_t_kept, .int t_isKept])), (h_t_paper, .inl (cI, 80, .inl vL116_0)), (h_t_powers, .inl (cI, 8, .inl a_t_powers)), (h_t_tree, .inl (cI, 3, .inl a_t_tree))] → va_S A s.heap H locs → lv_has ls 3 [(0, .ref h_t), (1, .int vL100_2), (2, .int vL116_2)] → wq3 (B_X9_spells_116 t_leaves a_t_tree vL100_2 (K_X9_spells_116_152 vL100_2 (wq3 (B_X9_spells_100 t_leaves t_splits a_t_tree K_X9_spells_100_158) n100))) n116 vL116_0 vL116_1 vL116_2 = some (w0, w1) → W p l e (headSpec wsX9_spells ({ frames := 1, cells := 0, slots := 0, locals := 21 })).room s m ([.ref h_t] : List Value).toArray below meth c H locs 0 0 (MQ below (va_Qv (fun (_ : Unit) => True) (fun _ t => va_P G vwCl [(h_t, .inr (8, [.int t_genus, .int t_marks, .ref h_t_powers, .int t_leaves, .int t_splits, .ref h_t_tree, .ref h_t_ahead, .ref h_t_behind, .ref h_t_before, .int t_done, .int t_undone, .ref h_t_rows, .ref h_t_met, .ref h_t_metSizes, .int t_metMany, .int t_treesSeen, .ref h_t_chosen, .ref h_t_tape, .int t_taped, .int t_place, .int t_isWrong, .int t_toldGenus, .int t_toldMarks, .ref h_t_toldPowers, .ref h_t_powerPlaces, .int t_isTree, .int t_toldLeaves, .int t_leavesPlace, .int t_toldSplits, .ref h_t_toldTree, .ref h_t_splitPlaces, .ref h_t_layers, .int t_isWhy, .ref h_t_paper, .int w1, .ref h_t_held, .ref h_t_numbers, .ref h_t_sizes, .ref h_t_heldLeaves, .ref h_t_items, .ref h_t_kept, .int t_isKept])), (h_t_paper, .inl (cI, 80, .inl w0)), (h_t_powers, .inl (cI, 8, .inl a_t_powers)), (h_t_tree, .inl (cI, 3, .inl a_t_tree))] t.heap) A) ([.ref h_t] : List Value).toArray s 0 0 A) (F0 m 116 ls []) := by
        intro n116
        induction n116 with
        | zero => intro vL116_0 vL116_1 vL116_2 H locs ls hP hD hS hl h; exact wq3_0 h
        | succ n116 ih116 =>
          intro vL116_0 vL116_1 vL116_2 H locs ls hP hD hS hl h
          have h := wq3_s h
          unfold B_X9_spells_116 at h
          refine lv_iload_n hx hb dX9_spells_116 rfl (lv_at hl 2 rfl) ?_
          refine lv_aload_n hx hb dX9_spells_117 rfl (lv_at hl 0 rfl) ?_
          refine va_get (D := G) (ci := 8) (v := .int t_leaves) (C := RX9) (T := TX9) (N := 42) hx hb hts hinX9 hown hK hP 0 rfl rfl 3 (by decide) (hta _ mw_609) (fun _ h9 => h9) rfl dX9_spells_118 ?_
          refine lv_icmp_ge (tgt := 152) hx hb dX9_spells_121 (by decide) (fun c7 => ?_) (fun c7 => ?_)
          · have h := it_p h c7
            exact hK_X9_spells_116_152 vL116_0 vL116_1 _ _ _ hP hD hS (lv_sub hl [0, 1] rfl) h
          have h := it_n h c7
          refine lv_aload_n hx hb dX9_spells_124 rfl (lv_at hl 0 rfl) ?_
          refine va_get (D := G) (ci := 8) (v := .ref h_t_tree) (C := RX9) (T := TX9) (N := 42) hx hb hts hinX9 hown hK hP 0 rfl rfl 5 (by decide) (hta _ mw_610) (fun _ h9 => h9) rfl dX9_spells_125 ?_
          refine lv_iload_n hx hb dX9_spells_128 rfl (lv_at hl 1 rfl) ?_
          obtain ⟨hn8, h⟩ := ck_e h
          refine va_iald hx hb hK hP 3 0 rfl rfl hn8 dX9_spells_129 ?_
          refine lv_iload_n hx hb dX9_spells_130 rfl (lv_at hl 2 rfl) ?_
          refine lv_ishr hx hb dX9_spells_131 ?_
          refine lv_iconst (v := (1 : Int32)) hx hb dX9_spells_132 (by decide) ?_
          refine lv_iand hx hb dX9_spells_133 ?_
          refine lv_iconst (v := (1 : Int32)) hx hb dX9_spells_134 (by decide) ?_
          refine lv_icmp_ne (tgt := 146) hx hb dX9_spells_135 (by decide) (fun c9 => ?_) (fun c9 => ?_)
          · have h := it_n h c9
            refine lv_iinc (v := (vL116_2 + (1 : Int32))) (lv' := [(2, .int (vL116_2 + (1 : Int32))), (0, .ref h_t), (1, .int vL100_2)]) hx hb dX9_spells_146 hl (k := 2) rfl (by first | rfl | decide) (by decide) rfl (fun ls hl => ?_)
            refine lv_goto (tgt := 116) hx hb dX9_spells_149 (by decide) ?_
            exact ih116 vL116_0 vL116_1 (vL116_2 + (1 : Int32)) _ _ _ hP hD hS (lv_sub hl [1, 2, 0] rfl) h
          have h := it_p h c9
          refine lv_aload_n hx hb dX9_spells_138 rfl (lv_at hl 0 rfl) ?_
          refine lv_bipush (v := (48 : Int32)) hx hb dX9_spells_139 (by decide) ?_
          refine lv_iload_n hx hb dX9_spells_141 rfl (lv_at hl 2 rfl) ?_
          refine lv_iadd hx hb dX9_spells_142 ?_
          obtain ⟨x10, hx10, h⟩ := bd_e h
          try dsimp only at h
          refine k_VvM (n := 1) (As := [.int ((48 : Int32) + vL116_2)]) (rest := []) hx hb hml hown hts (c_X9_writes l G cI cJ cD cH H.size h_t h_t_paper h_t_powers h_t_tree h_t_ahead h_t_behind h_t_before h_t_rows h_t_met h_t_metSizes h_t_chosen h_t_tape h_t_toldPowers h_t_powerPlaces h_t_toldTree h_t_splitPlaces h_t_layers h_t_held h_t_numbers h_t_sizes h_t_heldLeaves h_t_items h_t_kept t_genus t_marks t_leaves t_splits t_done t_undone t_metMany t_treesSeen t_taped t_place t_isWrong t_toldGenus t_toldMarks t_isTree t_toldLeaves t_leavesPlace t_toldSplits t_isWhy vL116_1 t_isKept vL116_0 ((48 : Int32) + vL116_2) (x10.1) (x10.2) hx10) gX9_spells_X9_writes rfl rfl rfl (by decide +kernel) ⟨by first | exact Nat.le_of_ble_eq_true rfl | (simp only [headSpec]; omega), by first | exact Nat.le_of_ble_eq_true rfl | (simp only [headSpec]; omega)⟩ hK hP hD hS hA [0, 1] (by decide) rfl rfl (ci := 8) rfl rfl rfl rfl rfl hl.1 (Nat.le_of_ble_eq_true rfl) dX9_spells_143 ⟨Nat.zero_le _, Nat.zero_le _⟩ [(h_t, .inr (8, [.int t_genus, .int t_marks, .ref h_t_powers, .int t_leaves, .int t_splits, .ref h_t_tree, .ref h_t_ahead, .ref h_t_behind, .ref h_t_before, .int t_done, .int t_undone, .ref h_t_rows, .ref h_t_met, .ref h_t_metSizes, .int t_metMany, .int t_treesSeen, .ref h_t_chosen, .ref h_t_tape, .int t_taped, .int t_place, .int t_isWrong, .int t_toldGenus, .int t_toldMarks, .ref h_t_toldPowers, .ref h_t_powerPlaces, .int t_isTree, .int t_toldLeaves, .int t_leavesPlace, .int t_toldSplits, .ref h_t_toldTree, .ref h_t_splitPlaces, .ref h_t_layers, .int t_isWhy, .ref h_t_paper, .int (x10.2), .ref h_t_held, .ref h_t_numbers, .ref h_t_sizes, .ref h_t_heldLeaves, .ref h_t_items, .ref h_t_kept, .int t_isKept])), (h_t_paper, .inl (cI, 80, .inl (x10.1))), (h_t_powers, .inl (cI, 8, .inl a_t_powers)), (h_t_tree, .inl (cI, 3, .inl a_t_tree))] [1, 2, 0, 0] 2 (by decide +kernel) rfl rfl rfl (fun hp10 H locs hP hD hS => ?_)
          refine lv_iinc (v := (vL116_2 + (1 : Int32))) (lv' := [(2, .int (vL116_2 + (1 : Int32))), (0, .ref h_t), (1, .int vL100_2)]) hx hb dX9_spells_146 hl (k := 2) rfl (by first | rfl | decide) (by decide) rfl (fun ls hl => ?_)
          refine lv_goto (tgt := 116) hx hb dX9_spells_149 (by decide) ?_
          exact ih116 (x10.1) (x10.2) (vL116_2 + (1 : Int32)) _ _ _ hP hD hS (lv_sub hl [1, 2, 0] rfl) h
      exact hL116 FU (x6.1) (x6.2) (0 : Int32) _ _ _ hP hD hS (lv_sub hl [1, 2, 0] rfl) h
  exact hL100 FU (x4.1) (x4.2) (0 : Int32) _ _ _ hP hD hS (lv_sub hl [1, 0] rfl) h
set_option maxHeartbeats 4000000 in
set_option maxRecDepth 100000 in
theorem c_X9_spells (l : Launch) (G : va_G) (cI cJ cD cH : ClassId) (sz : Nat) (h_t : Nat) (h_t_paper : Nat) (h_t_powers : Nat) (h_t_tree : Nat) (h_t_ahead : Nat) (h_t_behind : Nat) (h_t_before : Nat) (h_t_rows : Nat) (h_t_met : Nat) (h_t_metSizes : Nat) (h_t_chosen : Nat) (h_t_tape : Nat) (h_t_toldPowers : Nat) (h_t_powerPlaces : Nat) (h_t_toldTree : Nat) (h_t_splitPlaces : Nat) (h_t_layers : Nat) (h_t_held : Nat) (h_t_numbers : Nat) (h_t_sizes : Nat) (h_t_heldLeaves : Nat) (h_t_items : Nat) (h_t_kept : Nat) (t_genus : Int32) (t_marks : Int32) (t_leaves : Int32) (t_splits : Int32) (t_done : Int32) (t_undone : Int32) (t_metMany : Int32) (t_treesSeen : Int32) (t_taped : Int32) (t_place : Int32) (t_isWrong : Int32) (t_toldGenus : Int32) (t_toldMarks : Int32) (t_isTree : Int32) (t_toldLeaves : Int32) (t_leavesPlace : Int32) (t_toldSplits : Int32) (t_isWhy : Int32) (t_papered : Int32) (t_isKept : Int32) (a_t_paper : Nat → Int32) (a_t_powers : Nat → Int32) (a_t_tree : Nat → Int32) (w0 : Nat → Int32) (w1 : Int32) (hF : F_X9_spells t_genus t_marks t_leaves t_splits a_t_paper a_t_powers a_t_tree = some (w0, w1)) : Met l yX9_spells wsX9_spells ({ frames := 1, cells := 0, slots := 0, locals := 21 }) (k_pre G (k_T cI cJ cD cH) [(h_t, .inr (8, [.int t_genus, .int t_marks, .ref h_t_powers, .int t_leaves, .int t_splits, .ref h_t_tree, .ref h_t_ahead, .ref h_t_behind, .ref h_t_before, .int t_done, .int t_undone, .ref h_t_rows, .ref h_t_met, .ref h_t_metSizes, .int t_metMany, .int t_treesSeen, .ref h_t_chosen, .ref h_t_tape, .int t_taped, .int t_place, .int t_isWrong, .int t_toldGenus, .int t_toldMarks, .ref h_t_toldPowers, .ref h_t_powerPlaces, .int t_isTree, .int t_toldLeaves, .int t_leavesPlace, .int t_toldSplits, .ref h_t_toldTree, .ref h_t_splitPlaces, .ref h_t_layers, .int t_isWhy, .ref h_t_paper, .int t_papered, .ref h_t_held, .ref h_t_numbers, .ref h_t_sizes, .ref h_t_heldLeaves, .ref h_t_items, .ref h_t_kept, .int t_isKept])), (h_t_paper, .inl (cI, 80, .inl a_t_paper)), (h_t_powers, .inl (cI, 8, .inl a_t_powers)), (h_t_tree, .inl (cI, 3, .inl a_t_tree))] sz [.ref h_t]) (va_Qv (fun (_ : Unit) => True) (fun _ t => va_P G vwCl [(h_t, .inr (8, [.int t_genus, .int t_marks, .ref h_t_powers, .int t_leaves, .int t_splits, .ref h_t_tree, .ref h_t_ahead, .ref h_t_behind, .ref h_t_before, .int t_done, .int t_undone, .ref h_t_rows, .ref h_t_met, .ref h_t_metSizes, .int t_metMany, .int t_treesSeen, .ref h_t_chosen, .ref h_t_tape, .int t_taped, .int t_place, .int t_isWrong, .int t_toldGenus, .int t_toldMarks, .ref h_t_toldPowers, .ref h_t_powerPlaces, .int t_isTree, .int t_toldLeaves, .int t_leavesPlace, .int t_toldSplits, .ref h_t_toldTree, .ref h_t_splitPlaces, .ref h_t_layers, .int t_isWhy, .ref h_t_paper, .int w1, .ref h_t_held, .ref h_t_numbers, .ref h_t_sizes, .ref h_t_heldLeaves, .ref h_t_items, .ref h_t_kept, .int t_isKept])), (h_t_paper, .inl (cI, 80, .inl w0)), (h_t_powers, .inl (cI, 8, .inl a_t_powers)), (h_t_tree, .inl (cI, 3, .inl a_t_tree))] t.heap) (va_A [(h_t, .inr (8, [.int t_genus, .int t_marks, .ref h_t_powers, .int t_leaves, .int t_splits, .ref h_t_tree, .ref h_t_ahead, .ref h_t_behind, .ref h_t_before, .int t_done, .int t_undone, .ref h_t_rows, .ref h_t_met, .ref h_t_metSizes, .int t_metMany, .int t_treesSeen, .ref h_t_chosen, .ref h_t_tape, .int t_taped, .int t_place, .int t_isWrong, .int t_toldGenus, .int t_toldMarks, .ref h_t_toldPowers, .ref h_t_powerPlaces, .int t_isTree, .int t_toldLeaves, .int t_leavesPlace, .int t_toldSplits, .ref h_t_toldTree, .ref h_t_splitPlaces, .ref h_t_layers, .int t_isWhy, .ref h_t_paper, .int t_papered, .ref h_t_held, .ref h_t_numbers, .ref h_t_sizes, .ref h_t_heldLeaves, .ref h_t_items, .ref h_t_kept, .int t_isKept])), (h_t_paper, .inl (cI, 80, .inl a_t_paper)), (h_t_powers, .inl (cI, 8, .inl a_t_powers)), (h_t_tree, .inl (cI, 3, .inl a_t_tree))] sz)) 0 0 (va_A [(h_t, .inr (8, [.int t_genus, .int t_marks, .ref h_t_powers, .int t_leaves, .int t_splits, .ref h_t_tree, .ref h_t_ahead, .ref h_t_behind, .ref h_t_before, .int t_done, .int t_undone, .ref h_t_rows, .ref h_t_met, .ref h_t_metSizes, .int t_metMany, .int t_treesSeen, .ref h_t_chosen, .ref h_t_tape, .int t_taped, .int t_place, .int t_isWrong, .int t_toldGenus, .int t_toldMarks, .ref h_t_toldPowers, .ref h_t_powerPlaces, .int t_isTree, .int t_toldLeaves, .int t_leavesPlace, .int t_toldSplits, .ref h_t_toldTree, .ref h_t_splitPlaces, .ref h_t_layers, .int t_isWhy, .ref h_t_paper, .int t_papered, .ref h_t_held, .ref h_t_numbers, .ref h_t_sizes, .ref h_t_heldLeaves, .ref h_t_items, .ref h_t_kept, .int t_isKept])), (h_t_paper, .inl (cI, 80, .inl a_t_paper)), (h_t_powers, .inl (cI, 8, .inl a_t_powers)), (h_t_tree, .inl (cI, 3, .inl a_t_tree))] sz) := by
  refine Met.ofW (cc := cX9_spells) (maxL := 3) (ret := none) (by decide) rfl ?_
  intro p e s m args below meth c s₁ B hml hv
  obtain ⟨rfl, hsz, hP, hK, hD0⟩ := hv
  have hx := B.exec
  have hb := B.bytes
  have hr := B.returns
  have hts := atoms_spec (ws := wsX9_spells) B.pre
  have hta : ∀ w ∈ wA, w.before ([.ref h_t] : List Value).toArray s = true := hta_of hts
  have hown : s.vm.findClass RX9 = some m.cls := findClass_of_methodNamed B.named
  have hlocks := B.notSynchronized
  subst hsz
  have hD := hD0.self (sz := s.heap.size)
  generalize hAe : va_A [(h_t, .inr (8, [.int t_genus, .int t_marks, .ref h_t_powers, .int t_leaves, .int t_splits, .ref h_t_tree, .ref h_t_ahead, .ref h_t_behind, .ref h_t_before, .int t_done, .int t_undone, .ref h_t_rows, .ref h_t_met, .ref h_t_metSizes, .int t_metMany, .int t_treesSeen, .ref h_t_chosen, .ref h_t_tape, .int t_taped, .int t_place, .int t_isWrong, .int t_toldGenus, .int t_toldMarks, .ref h_t_toldPowers, .ref h_t_powerPlaces, .int t_isTree, .int t_toldLeaves, .int t_leavesPlace, .int t_toldSplits, .ref h_t_toldTree, .ref h_t_splitPlaces, .ref h_t_layers, .int t_isWhy, .ref h_t_paper, .int t_papered, .ref h_t_held, .ref h_t_numbers, .ref h_t_sizes, .ref h_t_heldLeaves, .ref h_t_items, .ref h_t_kept, .int t_isKept])), (h_t_paper, .inl (cI, 80, .inl a_t_paper)), (h_t_powers, .inl (cI, 8, .inl a_t_powers)), (h_t_tree, .inl (cI, 3, .inl a_t_tree))] s.heap.size = A at hD ⊢
  have hA : ∀ q : Nat, s.heap.size ≤ q → A q := fun q h => by rw [← hAe]; exact Or.inr h
  have hS : va_S A s.heap s.heap [] := va_S.rf
  have hl := lv_entry ([.ref h_t]) (n := 3) (Nat.le_of_ble_eq_true rfl)
  rw [lg_entry_eq]
  generalize (lg_sl ([.ref h_t]) ++ List.replicate (3 - (lg_sl ([.ref h_t])).length) Slot.unset).toArray = ls at hl ⊢
  have hl : lv_has ls 3 [(0, .ref h_t)] := hl
  have hinX9 : ∀ w ∈ wsX90, w ∈ wsX9_spells := hin_of in_X9
  have h := hF
  unfold F_X9_spells at h
  refine lv_aload_n hx hb dX9_spells_0 rfl (lv_at hl 0 rfl) ?_
  refine lv_iconst (v := (0 : Int32)) hx hb dX9_spells_1 (by decide) ?_
  refine va_put (D := G) (ci := 8) (v := .int (0 : Int32)) (ty := .int) (C := RX9) (T := TX9) (N := 42) hx hb hts hinX9 tyX9 tyX9_ok nmX9 hown hK hP hD hS 0 rfl rfl 34 (by decide) (hta _ mw_855) (fun _ h9 => h9) rfl (by decide +kernel) rfl rfl (Nat.le_of_ble_eq_true rfl) dX9_spells_2 (fun H locs hP hD hS => ?_)
  have hP : va_P G vwCl [(h_t, .inr (8, [.int t_genus, .int t_marks, .ref h_t_powers, .int t_leaves, .int t_splits, .ref h_t_tree, .ref h_t_ahead, .ref h_t_behind, .ref h_t_before, .int t_done, .int t_undone, .ref h_t_rows, .ref h_t_met, .ref h_t_metSizes, .int t_metMany, .int t_treesSeen, .ref h_t_chosen, .ref h_t_tape, .int t_taped, .int t_place, .int t_isWrong, .int t_toldGenus, .int t_toldMarks, .ref h_t_toldPowers, .ref h_t_powerPlaces, .int t_isTree, .int t_toldLeaves, .int t_leavesPlace, .int t_toldSplits, .ref h_t_toldTree, .ref h_t_splitPlaces, .ref h_t_layers, .int t_isWhy, .ref h_t_paper, .int (0 : Int32), .ref h_t_held, .ref h_t_numbers, .ref h_t_sizes, .ref h_t_heldLeaves, .ref h_t_items, .ref h_t_kept, .int t_isKept])), (h_t_paper, .inl (cI, 80, .inl a_t_paper)), (h_t_powers, .inl (cI, 8, .inl a_t_powers)), (h_t_tree, .inl (cI, 3, .inl a_t_tree))] H := hP
  have hD : va_D A [(h_t, .inr (8, [.int t_genus, .int t_marks, .ref h_t_powers, .int t_leaves, .int t_splits, .ref h_t_tree, .ref h_t_ahead, .ref h_t_behind, .ref h_t_before, .int t_done, .int t_undone, .ref h_t_rows, .ref h_t_met, .ref h_t_metSizes, .int t_metMany, .int t_treesSeen, .ref h_t_chosen, .ref h_t_tape, .int t_taped, .int t_place, .int t_isWrong, .int t_toldGenus, .int t_toldMarks, .ref h_t_toldPowers, .ref h_t_powerPlaces, .int t_isTree, .int t_toldLeaves, .int t_leavesPlace, .int t_toldSplits, .ref h_t_toldTree, .ref h_t_splitPlaces, .ref h_t_layers, .int t_isWhy, .ref h_t_paper, .int (0 : Int32), .ref h_t_held, .ref h_t_numbers, .ref h_t_sizes, .ref h_t_heldLeaves, .ref h_t_items, .ref h_t_kept, .int t_isKept])), (h_t_paper, .inl (cI, 80, .inl a_t_paper)), (h_t_powers, .inl (cI, 8, .inl a_t_powers)), (h_t_tree, .inl (cI, 3, .inl a_t_tree))] := hD
  refine lv_aload_n hx hb dX9_spells_5 rfl (lv_at hl 0 rfl) ?_
  refine lv_bipush (v := (48 : Int32)) hx hb dX9_spells_6 (by decide) ?_
  refine lv_aload_n hx hb dX9_spells_8 rfl (lv_at hl 0 rfl) ?_
  refine va_get (D := G) (ci := 8) (v := .int t_genus) (C := RX9) (T := TX9) (N := 42) hx hb hts hinX9 hown hK hP 0 rfl rfl 0 (by decide) (hta _ mw_640) (fun _ h9 => h9) rfl dX9_spells_9 ?_
  refine lv_iadd hx hb dX9_spells_12 ?_
  obtain ⟨x1, hx1, h⟩ := bd_e h
  try dsimp only at h
  refine k_VvM (n := 1) (As := [.int ((48 : Int32) + t_genus)]) (rest := []) hx hb hml hown hts (c_X9_writes l G cI cJ cD cH H.size h_t h_t_paper h_t_powers h_t_tree h_t_ahead h_t_behind h_t_before h_t_rows h_t_met h_t_metSizes h_t_chosen h_t_tape h_t_toldPowers h_t_powerPlaces h_t_toldTree h_t_splitPlaces h_t_layers h_t_held h_t_numbers h_t_sizes h_t_heldLeaves h_t_items h_t_kept t_genus t_marks t_leaves t_splits t_done t_undone t_metMany t_treesSeen t_taped t_place t_isWrong t_toldGenus t_toldMarks t_isTree t_toldLeaves t_leavesPlace t_toldSplits t_isWhy (0 : Int32) t_isKept a_t_paper ((48 : Int32) + t_genus) (x1.1) (x1.2) hx1) gX9_spells_X9_writes rfl rfl rfl (by decide +kernel) ⟨by first | exact Nat.le_of_ble_eq_true rfl | (simp only [headSpec]; omega), by first | exact Nat.le_of_ble_eq_true rfl | (simp only [headSpec]; omega)⟩ hK hP hD hS hA [0, 1] (by decide) rfl rfl (ci := 8) rfl rfl rfl rfl rfl hl.1 (Nat.le_of_ble_eq_true rfl) dX9_spells_13 ⟨Nat.zero_le _, Nat.zero_le _⟩ [(h_t, .inr (8, [.int t_genus, .int t_marks, .ref h_t_powers, .int t_leaves, .int t_splits, .ref h_t_tree, .ref h_t_ahead, .ref h_t_behind, .ref h_t_before, .int t_done, .int t_undone, .ref h_t_rows, .ref h_t_met, .ref h_t_metSizes, .int t_metMany, .int t_treesSeen, .ref h_t_chosen, .ref h_t_tape, .int t_taped, .int t_place, .int t_isWrong, .int t_toldGenus, .int t_toldMarks, .ref h_t_toldPowers, .ref h_t_powerPlaces, .int t_isTree, .int t_toldLeaves, .int t_leavesPlace, .int t_toldSplits, .ref h_t_toldTree, .ref h_t_splitPlaces, .ref h_t_layers, .int t_isWhy, .ref h_t_paper, .int (x1.2), .ref h_t_held, .ref h_t_numbers, .ref h_t_sizes, .ref h_t_heldLeaves, .ref h_t_items, .ref h_t_kept, .int t_isKept])), (h_t_paper, .inl (cI, 80, .inl (x1.1))), (h_t_powers, .inl (cI, 8, .inl a_t_powers)), (h_t_tree, .inl (cI, 3, .inl a_t_tree))] [1, 2, 0, 0] 2 (by decide +kernel) rfl rfl rfl (fun hp1 H locs hP hD hS => ?_)
  refine lv_aload_n hx hb dX9_spells_16 rfl (lv_at hl 0 rfl) ?_
  refine lv_bipush (v := (58 : Int32)) hx hb dX9_spells_17 (by decide) ?_
  obtain ⟨x2, hx2, h⟩ := bd_e h
  try dsimp only at h
  refine k_VvM (n := 1) (As := [.int (58 : Int32)]) (rest := []) hx hb hml hown hts (c_X9_writes l G cI cJ cD cH H.size h_t h_t_paper h_t_powers h_t_tree h_t_ahead h_t_behind h_t_before h_t_rows h_t_met h_t_metSizes h_t_chosen h_t_tape h_t_toldPowers h_t_powerPlaces h_t_toldTree h_t_splitPlaces h_t_layers h_t_held h_t_numbers h_t_sizes h_t_heldLeaves h_t_items h_t_kept t_genus t_marks t_leaves t_splits t_done t_undone t_metMany t_treesSeen t_taped t_place t_isWrong t_toldGenus t_toldMarks t_isTree t_toldLeaves t_leavesPlace t_toldSplits t_isWhy (x1.2) t_isKept (x1.1) (58 : Int32) (x2.1) (x2.2) hx2) gX9_spells_X9_writes rfl rfl rfl (by decide +kernel) ⟨by first | exact Nat.le_of_ble_eq_true rfl | (simp only [headSpec]; omega), by first | exact Nat.le_of_ble_eq_true rfl | (simp only [headSpec]; omega)⟩ hK hP hD hS hA [0, 1] (by decide) rfl rfl (ci := 8) rfl rfl rfl rfl rfl hl.1 (Nat.le_of_ble_eq_true rfl) dX9_spells_19 ⟨Nat.zero_le _, Nat.zero_le _⟩ [(h_t, .inr (8, [.int t_genus, .int t_marks, .ref h_t_powers, .int t_leaves, .int t_splits, .ref h_t_tree, .ref h_t_ahead, .ref h_t_behind, .ref h_t_before, .int t_done, .int t_undone, .ref h_t_rows, .ref h_t_met, .ref h_t_metSizes, .int t_metMany, .int t_treesSeen, .ref h_t_chosen, .ref h_t_tape, .int t_taped, .int t_place, .int t_isWrong, .int t_toldGenus, .int t_toldMarks, .ref h_t_toldPowers, .ref h_t_powerPlaces, .int t_isTree, .int t_toldLeaves, .int t_leavesPlace, .int t_toldSplits, .ref h_t_toldTree, .ref h_t_splitPlaces, .ref h_t_layers, .int t_isWhy, .ref h_t_paper, .int (x2.2), .ref h_t_held, .ref h_t_numbers, .ref h_t_sizes, .ref h_t_heldLeaves, .ref h_t_items, .ref h_t_kept, .int t_isKept])), (h_t_paper, .inl (cI, 80, .inl (x2.1))), (h_t_powers, .inl (cI, 8, .inl a_t_powers)), (h_t_tree, .inl (cI, 3, .inl a_t_tree))] [1, 2, 0, 0] 2 (by decide +kernel) rfl rfl rfl (fun hp2 H locs hP hD hS => ?_)
  refine lv_iconst (v := (0 : Int32)) hx hb dX9_spells_22 (by decide) ?_
  refine lv_istore_n (lv' := [(1, .int (0 : Int32)), (0, .ref h_t)]) hx hb dX9_spells_23 rfl hl (by decide) rfl (fun ls hl => ?_)
  have hL24 : ∀ (n24 : Nat) (vL24_0 : Nat → Int32) (vL24_1 : Int32) (vL24_2 : Int32) (H : Heap) (locs : List Loc) (ls : Array Slot), va_P G vwCl [(h_t, .inr (8, [.int t_genus, .int t_marks, .ref h_t_powers, .int t_leaves, .int t_splits, .ref h_t_tree, .ref h_t_ahead, .ref h_t_behind, .ref h_t_before, .int t_done, .int t_undone, .ref h_t_rows, .ref h_t_met, .ref h_t_metSizes, .int t_metMany, .int t_treesSeen, .ref h_t_chosen, .ref h_t_tape, .int t_taped, .int t_place, .int t_isWrong, .int t_toldGenus, .int t_toldMarks, .ref h_t_toldPowers, .ref h_t_powerPlaces, .int t_isTree, .int t_toldLeaves, .int t_leavesPlace, .int t_toldSplits, .ref h_t_toldTree, .ref h_t_splitPlaces, .ref h_t_layers, .int t_isWhy, .ref h_t_paper, .int vL24_1, .ref h_t_held, .ref h_t_numbers, .ref h_t_sizes, .ref h_t_heldLeaves, .ref h_t_items, .ref h_t_kept, .int t_isKept])), (h_t_paper, .inl (cI, 80, .inl vL24_0)), (h_t_powers, .inl (cI, 8, .inl a_t_powers)), (h_t_tree, .inl (cI, 3, .inl a_t_tree))] H → va_D A [(h_t, .inr (8, [.int t_genus, .int t_marks, .ref h_t_powers, .int t_leaves, .int t_splits, .ref h_t_tree, .ref h_t_ahead, .ref h_t_behind, .ref h_t_before, .int t_done, .int t_undone, .ref h_t_rows, .ref h_t_met, .ref h_t_metSizes, .int t_metMany, .int t_treesSeen, .ref h_t_chosen, .ref h_t_tape, .int t_taped, .int t_place, .int t_isWrong, .int t_toldGenus, .int t_toldMarks, .ref h_t_toldPowers, .ref h_t_powerPlaces, .int t_isTree, .int t_toldLeaves, .int t_leavesPlace, .int t_toldSplits, .ref h_t_toldTree, .ref h_t_splitPlaces, .ref h_t_layers, .int t_isWhy, .ref h_t_paper, .int vL24_1, .ref h_t_held, .ref h_t_numbers, .ref h_t_sizes, .ref h_t_heldLeaves, .ref h_t_items, .ref h_t_kept, .int t_isKept])), (h_t_paper, .inl (cI, 80, .inl vL24_0)), (h_t_powers, .inl (cI, 8, .inl a_t_powers)), (h_t_tree, .inl (cI, 3, .inl a_t_tree))] → va_S A s.heap H locs → lv_has ls 3 [(0, .ref h_t), (1, .int vL24_2)] → wq3 (B_X9_spells_24 t_marks a_t_powers (K_X9_spells_24_81 t_leaves t_splits a_t_tree)) n24 vL24_0 vL24_1 vL24_2 = some (w0, w1) → W p l e (headSpec wsX9_spells ({ frames := 1, cells := 0, slots := 0, locals := 21 })).room s m ([.ref h_t] : List Value).toArray below meth c H locs 0 0 (MQ below (va_Qv (fun (_ : Unit) => True) (fun _ t => va_P G vwCl [(h_t, .inr (8, [.int t_genus, .int t_marks, .ref h_t_powers, .int t_leaves, .int t_splits, .ref h_t_tree, .ref h_t_ahead, .ref h_t_behind, .ref h_t_before, .int t_done, .int t_undone, .ref h_t_rows, .ref h_t_met, .ref h_t_metSizes, .int t_metMany, .int t_treesSeen, .ref h_t_chosen, .ref h_t_tape, .int t_taped, .int t_place, .int t_isWrong, .int t_toldGenus, .int t_toldMarks, .ref h_t_toldPowers, .ref h_t_powerPlaces, .int t_isTree, .int t_toldLeaves, .int t_leavesPlace, .int t_toldSplits, .ref h_t_toldTree, .ref h_t_splitPlaces, .ref h_t_layers, .int t_isWhy, .ref h_t_paper, .int w1, .ref h_t_held, .ref h_t_numbers, .ref h_t_sizes, .ref h_t_heldLeaves, .ref h_t_items, .ref h_t_kept, .int t_isKept])), (h_t_paper, .inl (cI, 80, .inl w0)), (h_t_powers, .inl (cI, 8, .inl a_t_powers)), (h_t_tree, .inl (cI, 3, .inl a_t_tree))] t.heap) A) ([.ref h_t] : List Value).toArray s 0 0 A) (F0 m 24 ls []) := by
    intro n24
    induction n24 with
    | zero => intro vL24_0 vL24_1 vL24_2 H locs ls hP hD hS hl h; exact wq3_0 h
    | succ n24 ih24 =>
      intro vL24_0 vL24_1 vL24_2 H locs ls hP hD hS hl h
      have h := wq3_s h
      unfold B_X9_spells_24 at h
      refine lv_iload_n hx hb dX9_spells_24 rfl (lv_at hl 1 rfl) ?_
      refine lv_aload_n hx hb dX9_spells_25 rfl (lv_at hl 0 rfl) ?_
      refine va_get (D := G) (ci := 8) (v := .int t_marks) (C := RX9) (T := TX9) (N := 42) hx hb hts hinX9 hown hK hP 0 rfl rfl 1 (by decide) (hta _ mw_641) (fun _ h9 => h9) rfl dX9_spells_26 ?_
      refine lv_icmp_ge (tgt := 81) hx hb dX9_spells_29 (by decide) (fun c11 => ?_) (fun c11 => ?_)
      · have h := it_p h c11
        exact tK_X9_spells_24_81 hx hb hr hml hts hown hlocks hK hA vL24_0 vL24_1 _ _ _ hP hD hS (lv_sub hl [0] rfl) h
      have h := it_n h c11
      refine lv_iload_n hx hb dX9_spells_32 rfl (lv_at hl 1 rfl) ?_
      have hJ_X9_spells_42 : ∀  (vJ42_0 : Nat → Int32) (vJ42_1 : Int32) (H : Heap) (locs : List Loc) (ls : Array Slot), va_P G vwCl [(h_t, .inr (8, [.int t_genus, .int t_marks, .ref h_t_powers, .int t_leaves, .int t_splits, .ref h_t_tree, .ref h_t_ahead, .ref h_t_behind, .ref h_t_before, .int t_done, .int t_undone, .ref h_t_rows, .ref h_t_met, .ref h_t_metSizes, .int t_metMany, .int t_treesSeen, .ref h_t_chosen, .ref h_t_tape, .int t_taped, .int t_place, .int t_isWrong, .int t_toldGenus, .int t_toldMarks, .ref h_t_toldPowers, .ref h_t_powerPlaces, .int t_isTree, .int t_toldLeaves, .int t_leavesPlace, .int t_toldSplits, .ref h_t_toldTree, .ref h_t_splitPlaces, .ref h_t_layers, .int t_isWhy, .ref h_t_paper, .int vJ42_1, .ref h_t_held, .ref h_t_numbers, .ref h_t_sizes, .ref h_t_heldLeaves, .ref h_t_items, .ref h_t_kept, .int t_isKept])), (h_t_paper, .inl (cI, 80, .inl vJ42_0)), (h_t_powers, .inl (cI, 8, .inl a_t_powers)), (h_t_tree, .inl (cI, 3, .inl a_t_tree))] H → va_D A [(h_t, .inr (8, [.int t_genus, .int t_marks, .ref h_t_powers, .int t_leaves, .int t_splits, .ref h_t_tree, .ref h_t_ahead, .ref h_t_behind, .ref h_t_before, .int t_done, .int t_undone, .ref h_t_rows, .ref h_t_met, .ref h_t_metSizes, .int t_metMany, .int t_treesSeen, .ref h_t_chosen, .ref h_t_tape, .int t_taped, .int t_place, .int t_isWrong, .int t_toldGenus, .int t_toldMarks, .ref h_t_toldPowers, .ref h_t_powerPlaces, .int t_isTree, .int t_toldLeaves, .int t_leavesPlace, .int t_toldSplits, .ref h_t_toldTree, .ref h_t_splitPlaces, .ref h_t_layers, .int t_isWhy, .ref h_t_paper, .int vJ42_1, .ref h_t_held, .ref h_t_numbers, .ref h_t_sizes, .ref h_t_heldLeaves, .ref h_t_items, .ref h_t_kept, .int t_isKept])), (h_t_paper, .inl (cI, 80, .inl vJ42_0)), (h_t_powers, .inl (cI, 8, .inl a_t_powers)), (h_t_tree, .inl (cI, 3, .inl a_t_tree))] → va_S A s.heap H locs → lv_has ls 3 [(0, .ref h_t), (1, .int vL24_2)] → J_X9_spells_42 a_t_powers vL24_2 (wq3 (B_X9_spells_24 t_marks a_t_powers (K_X9_spells_24_81 t_leaves t_splits a_t_tree)) n24) vJ42_0 vJ42_1 = some (w0, w1) → W p l e (headSpec wsX9_spells ({ frames := 1, cells := 0, slots := 0, locals := 21 })).room s m ([.ref h_t] : List Value).toArray below meth c H locs 0 0 (MQ below (va_Qv (fun (_ : Unit) => True) (fun _ t => va_P G vwCl [(h_t, .inr (8, [.int t_genus, .int t_marks, .ref h_t_powers, .int t_leaves, .int t_splits, .ref h_t_tree, .ref h_t_ahead, .ref h_t_behind, .ref h_t_before, .int t_done, .int t_undone, .ref h_t_rows, .ref h_t_met, .ref h_t_metSizes, .int t_metMany, .int t_treesSeen, .ref h_t_chosen, .ref h_t_tape, .int t_taped, .int t_place, .int t_isWrong, .int t_toldGenus, .int t_toldMarks, .ref h_t_toldPowers, .ref h_t_powerPlaces, .int t_isTree, .int t_toldLeaves, .int t_leavesPlace, .int t_toldSplits, .ref h_t_toldTree, .ref h_t_splitPlaces, .ref h_t_layers, .int t_isWhy, .ref h_t_paper, .int w1, .ref h_t_held, .ref h_t_numbers, .ref h_t_sizes, .ref h_t_heldLeaves, .ref h_t_items, .ref h_t_kept, .int t_isKept])), (h_t_paper, .inl (cI, 80, .inl w0)), (h_t_powers, .inl (cI, 8, .inl a_t_powers)), (h_t_tree, .inl (cI, 3, .inl a_t_tree))] t.heap) A) ([.ref h_t] : List Value).toArray s 0 0 A) (F0 m 42 ls []) := by
        intro vJ42_0 vJ42_1 H locs ls hP hD hS hl h
        unfold J_X9_spells_42 at h
        refine lv_aload_n hx hb dX9_spells_42 rfl (lv_at hl 0 rfl) ?_
        refine va_get (D := G) (ci := 8) (v := .ref h_t_powers) (C := RX9) (T := TX9) (N := 42) hx hb hts hinX9 hown hK hP 0 rfl rfl 2 (by decide) (hta _ mw_608) (fun _ h9 => h9) rfl dX9_spells_43 ?_
        refine lv_iload_n hx hb dX9_spells_46 rfl (lv_at hl 1 rfl) ?_
        obtain ⟨hn12, h⟩ := ck_e h
        refine va_iald hx hb hK hP 2 0 rfl rfl hn12 dX9_spells_47 ?_
        refine lv_bipush (v := (9 : Int32)) hx hb dX9_spells_48 (by decide) ?_
        have hJ_X9_spells_59 : ∀  (vJ59_0 : Nat → Int32) (vJ59_1 : Int32) (H : Heap) (locs : List Loc) (ls : Array Slot), va_P G vwCl [(h_t, .inr (8, [.int t_genus, .int t_marks, .ref h_t_powers, .int t_leaves, .int t_splits, .ref h_t_tree, .ref h_t_ahead, .ref h_t_behind, .ref h_t_before, .int t_done, .int t_undone, .ref h_t_rows, .ref h_t_met, .ref h_t_metSizes, .int t_metMany, .int t_treesSeen, .ref h_t_chosen, .ref h_t_tape, .int t_taped, .int t_place, .int t_isWrong, .int t_toldGenus, .int t_toldMarks, .ref h_t_toldPowers, .ref h_t_powerPlaces, .int t_isTree, .int t_toldLeaves, .int t_leavesPlace, .int t_toldSplits, .ref h_t_toldTree, .ref h_t_splitPlaces, .ref h_t_layers, .int t_isWhy, .ref h_t_paper, .int vJ59_1, .ref h_t_held, .ref h_t_numbers, .ref h_t_sizes, .ref h_t_heldLeaves, .ref h_t_items, .ref h_t_kept, .int t_isKept])), (h_t_paper, .inl (cI, 80, .inl vJ59_0)), (h_t_powers, .inl (cI, 8, .inl a_t_powers)), (h_t_tree, .inl (cI, 3, .inl a_t_tree))] H → va_D A [(h_t, .inr (8, [.int t_genus, .int t_marks, .ref h_t_powers, .int t_leaves, .int t_splits, .ref h_t_tree, .ref h_t_ahead, .ref h_t_behind, .ref h_t_before, .int t_done, .int t_undone, .ref h_t_rows, .ref h_t_met, .ref h_t_metSizes, .int t_metMany, .int t_treesSeen, .ref h_t_chosen, .ref h_t_tape, .int t_taped, .int t_place, .int t_isWrong, .int t_toldGenus, .int t_toldMarks, .ref h_t_toldPowers, .ref h_t_powerPlaces, .int t_isTree, .int t_toldLeaves, .int t_leavesPlace, .int t_toldSplits, .ref h_t_toldTree, .ref h_t_splitPlaces, .ref h_t_layers, .int t_isWhy, .ref h_t_paper, .int vJ59_1, .ref h_t_held, .ref h_t_numbers, .ref h_t_sizes, .ref h_t_heldLeaves, .ref h_t_items, .ref h_t_kept, .int t_isKept])), (h_t_paper, .inl (cI, 80, .inl vJ59_0)), (h_t_powers, .inl (cI, 8, .inl a_t_powers)), (h_t_tree, .inl (cI, 3, .inl a_t_tree))] → va_S A s.heap H locs → lv_has ls 3 [(0, .ref h_t), (1, .int vL24_2)] → J_X9_spells_59 a_t_powers vL24_2 (wq3 (B_X9_spells_24 t_marks a_t_powers (K_X9_spells_24_81 t_leaves t_splits a_t_tree)) n24) vJ59_0 vJ59_1 = some (w0, w1) → W p l e (headSpec wsX9_spells ({ frames := 1, cells := 0, slots := 0, locals := 21 })).room s m ([.ref h_t] : List Value).toArray below meth c H locs 0 0 (MQ below (va_Qv (fun (_ : Unit) => True) (fun _ t => va_P G vwCl [(h_t, .inr (8, [.int t_genus, .int t_marks, .ref h_t_powers, .int t_leaves, .int t_splits, .ref h_t_tree, .ref h_t_ahead, .ref h_t_behind, .ref h_t_before, .int t_done, .int t_undone, .ref h_t_rows, .ref h_t_met, .ref h_t_metSizes, .int t_metMany, .int t_treesSeen, .ref h_t_chosen, .ref h_t_tape, .int t_taped, .int t_place, .int t_isWrong, .int t_toldGenus, .int t_toldMarks, .ref h_t_toldPowers, .ref h_t_powerPlaces, .int t_isTree, .int t_toldLeaves, .int t_leavesPlace, .int t_toldSplits, .ref h_t_toldTree, .ref h_t_splitPlaces, .ref h_t_layers, .int t_isWhy, .ref h_t_paper, .int w1, .ref h_t_held, .ref h_t_numbers, .ref h_t_sizes, .ref h_t_heldLeaves, .ref h_t_items, .ref h_t_kept, .int t_isKept])), (h_t_paper, .inl (cI, 80, .inl w0)), (h_t_powers, .inl (cI, 8, .inl a_t_powers)), (h_t_tree, .inl (cI, 3, .inl a_t_tree))] t.heap) A) ([.ref h_t] : List Value).toArray s 0 0 A) (F0 m 59 ls []) := by
          intro vJ59_0 vJ59_1 H locs ls hP hD hS hl h
          unfold J_X9_spells_59 at h
          refine lv_aload_n hx hb dX9_spells_59 rfl (lv_at hl 0 rfl) ?_
          refine lv_bipush (v := (48 : Int32)) hx hb dX9_spells_60 (by decide) ?_
          refine lv_aload_n hx hb dX9_spells_62 rfl (lv_at hl 0 rfl) ?_
          refine va_get (D := G) (ci := 8) (v := .ref h_t_powers) (C := RX9) (T := TX9) (N := 42) hx hb hts hinX9 hown hK hP 0 rfl rfl 2 (by decide) (hta _ mw_608) (fun _ h9 => h9) rfl dX9_spells_63 ?_
          refine lv_iload_n hx hb dX9_spells_66 rfl (lv_at hl 1 rfl) ?_
          obtain ⟨hn13, h⟩ := ck_e h
          refine va_iald hx hb hK hP 2 0 rfl rfl hn13 dX9_spells_67 ?_
          refine lv_bipush (v := (10 : Int32)) hx hb dX9_spells_68 (by decide) ?_
          refine lv_irem hx hb dX9_spells_70 (by decide) ?_
          refine lv_iadd hx hb dX9_spells_71 ?_
          obtain ⟨x14, hx14, h⟩ := bd_e h
          try dsimp only at h
          refine k_VvM (n := 1) (As := [.int ((48 : Int32) + ((a_t_powers vL24_2.toNatClampNeg) - (a_t_powers vL24_2.toNatClampNeg) / (10 : Int32) * (10 : Int32)))]) (rest := []) hx hb hml hown hts (c_X9_writes l G cI cJ cD cH H.size h_t h_t_paper h_t_powers h_t_tree h_t_ahead h_t_behind h_t_before h_t_rows h_t_met h_t_metSizes h_t_chosen h_t_tape h_t_toldPowers h_t_powerPlaces h_t_toldTree h_t_splitPlaces h_t_layers h_t_held h_t_numbers h_t_sizes h_t_heldLeaves h_t_items h_t_kept t_genus t_marks t_leaves t_splits t_done t_undone t_metMany t_treesSeen t_taped t_place t_isWrong t_toldGenus t_toldMarks t_isTree t_toldLeaves t_leavesPlace t_toldSplits t_isWhy vJ59_1 t_isKept vJ59_0 ((48 : Int32) + ((a_t_powers vL24_2.toNatClampNeg) - (a_t_powers vL24_2.toNatClampNeg) / (10 : Int32) * (10 : Int32))) (x14.1) (x14.2) hx14) gX9_spells_X9_writes rfl rfl rfl (by decide +kernel) ⟨by first | exact Nat.le_of_ble_eq_true rfl | (simp only [headSpec]; omega), by first | exact Nat.le_of_ble_eq_true rfl | (simp only [headSpec]; omega)⟩ hK hP hD hS hA [0, 1] (by decide) rfl rfl (ci := 8) rfl rfl rfl rfl rfl hl.1 (Nat.le_of_ble_eq_true rfl) dX9_spells_72 ⟨Nat.zero_le _, Nat.zero_le _⟩ [(h_t, .inr (8, [.int t_genus, .int t_marks, .ref h_t_powers, .int t_leaves, .int t_splits, .ref h_t_tree, .ref h_t_ahead, .ref h_t_behind, .ref h_t_before, .int t_done, .int t_undone, .ref h_t_rows, .ref h_t_met, .ref h_t_metSizes, .int t_metMany, .int t_treesSeen, .ref h_t_chosen, .ref h_t_tape, .int t_taped, .int t_place, .int t_isWrong, .int t_toldGenus, .int t_toldMarks, .ref h_t_toldPowers, .ref h_t_powerPlaces, .int t_isTree, .int t_toldLeaves, .int t_leavesPlace, .int t_toldSplits, .ref h_t_toldTree, .ref h_t_splitPlaces, .ref h_t_layers, .int t_isWhy, .ref h_t_paper, .int (x14.2), .ref h_t_held, .ref h_t_numbers, .ref h_t_sizes, .ref h_t_heldLeaves, .ref h_t_items, .ref h_t_kept, .int t_isKept])), (h_t_paper, .inl (cI, 80, .inl (x14.1))), (h_t_powers, .inl (cI, 8, .inl a_t_powers)), (h_t_tree, .inl (cI, 3, .inl a_t_tree))] [1, 2, 0, 0] 2 (by decide +kernel) rfl rfl rfl (fun hp14 H locs hP hD hS => ?_)
          refine lv_iinc (v := (vL24_2 + (1 : Int32))) (lv' := [(1, .int (vL24_2 + (1 : Int32))), (0, .ref h_t)]) hx hb dX9_spells_75 hl (k := 1) rfl (by first | rfl | decide) (by decide) rfl (fun ls hl => ?_)
          refine lv_goto (tgt := 24) hx hb dX9_spells_78 (by decide) ?_
          exact ih24 (x14.1) (x14.2) (vL24_2 + (1 : Int32)) _ _ _ hP hD hS (lv_sub hl [1, 0] rfl) h
        refine lv_icmp_le (tgt := 59) hx hb dX9_spells_50 (by decide) (fun c15 => ?_) (fun c15 => ?_)
        · have h := it_p h c15
          exact hJ_X9_spells_59 vJ42_0 vJ42_1 _ _ _ hP hD hS (lv_sub hl [0, 1] rfl) h
        have h := it_n h c15
        refine lv_aload_n hx hb dX9_spells_53 rfl (lv_at hl 0 rfl) ?_
        refine lv_bipush (v := (49 : Int32)) hx hb dX9_spells_54 (by decide) ?_
        obtain ⟨x16, hx16, h⟩ := bd_e h
        try dsimp only at h
        refine k_VvM (n := 1) (As := [.int (49 : Int32)]) (rest := []) hx hb hml hown hts (c_X9_writes l G cI cJ cD cH H.size h_t h_t_paper h_t_powers h_t_tree h_t_ahead h_t_behind h_t_before h_t_rows h_t_met h_t_metSizes h_t_chosen h_t_tape h_t_toldPowers h_t_powerPlaces h_t_toldTree h_t_splitPlaces h_t_layers h_t_held h_t_numbers h_t_sizes h_t_heldLeaves h_t_items h_t_kept t_genus t_marks t_leaves t_splits t_done t_undone t_metMany t_treesSeen t_taped t_place t_isWrong t_toldGenus t_toldMarks t_isTree t_toldLeaves t_leavesPlace t_toldSplits t_isWhy vJ42_1 t_isKept vJ42_0 (49 : Int32) (x16.1) (x16.2) hx16) gX9_spells_X9_writes rfl rfl rfl (by decide +kernel) ⟨by first | exact Nat.le_of_ble_eq_true rfl | (simp only [headSpec]; omega), by first | exact Nat.le_of_ble_eq_true rfl | (simp only [headSpec]; omega)⟩ hK hP hD hS hA [0, 1] (by decide) rfl rfl (ci := 8) rfl rfl rfl rfl rfl hl.1 (Nat.le_of_ble_eq_true rfl) dX9_spells_56 ⟨Nat.zero_le _, Nat.zero_le _⟩ [(h_t, .inr (8, [.int t_genus, .int t_marks, .ref h_t_powers, .int t_leaves, .int t_splits, .ref h_t_tree, .ref h_t_ahead, .ref h_t_behind, .ref h_t_before, .int t_done, .int t_undone, .ref h_t_rows, .ref h_t_met, .ref h_t_metSizes, .int t_metMany, .int t_treesSeen, .ref h_t_chosen, .ref h_t_tape, .int t_taped, .int t_place, .int t_isWrong, .int t_toldGenus, .int t_toldMarks, .ref h_t_toldPowers, .ref h_t_powerPlaces, .int t_isTree, .int t_toldLeaves, .int t_leavesPlace, .int t_toldSplits, .ref h_t_toldTree, .ref h_t_splitPlaces, .ref h_t_layers, .int t_isWhy, .ref h_t_paper, .int (x16.2), .ref h_t_held, .ref h_t_numbers, .ref h_t_sizes, .ref h_t_heldLeaves, .ref h_t_items, .ref h_t_kept, .int t_isKept])), (h_t_paper, .inl (cI, 80, .inl (x16.1))), (h_t_powers, .inl (cI, 8, .inl a_t_powers)), (h_t_tree, .inl (cI, 3, .inl a_t_tree))] [1, 2, 0, 0] 2 (by decide +kernel) rfl rfl rfl (fun hp16 H locs hP hD hS => ?_)
        exact hJ_X9_spells_59 (x16.1) (x16.2) _ _ _ hP hD hS (lv_sub hl [0, 1] rfl) h
      refine lv_if_le (tgt := 42) hx hb dX9_spells_33 (by decide) (fun c17 => ?_) (fun c17 => ?_)
      · have h := it_p h c17
        exact hJ_X9_spells_42 vL24_0 vL24_1 _ _ _ hP hD hS (lv_sub hl [0, 1] rfl) h
      have h := it_n h c17
      refine lv_aload_n hx hb dX9_spells_36 rfl (lv_at hl 0 rfl) ?_
      refine lv_bipush (v := (44 : Int32)) hx hb dX9_spells_37 (by decide) ?_
      obtain ⟨x18, hx18, h⟩ := bd_e h
      try dsimp only at h
      refine k_VvM (n := 1) (As := [.int (44 : Int32)]) (rest := []) hx hb hml hown hts (c_X9_writes l G cI cJ cD cH H.size h_t h_t_paper h_t_powers h_t_tree h_t_ahead h_t_behind h_t_before h_t_rows h_t_met h_t_metSizes h_t_chosen h_t_tape h_t_toldPowers h_t_powerPlaces h_t_toldTree h_t_splitPlaces h_t_layers h_t_held h_t_numbers h_t_sizes h_t_heldLeaves h_t_items h_t_kept t_genus t_marks t_leaves t_splits t_done t_undone t_metMany t_treesSeen t_taped t_place t_isWrong t_toldGenus t_toldMarks t_isTree t_toldLeaves t_leavesPlace t_toldSplits t_isWhy vL24_1 t_isKept vL24_0 (44 : Int32) (x18.1) (x18.2) hx18) gX9_spells_X9_writes rfl rfl rfl (by decide +kernel) ⟨by first | exact Nat.le_of_ble_eq_true rfl | (simp only [headSpec]; omega), by first | exact Nat.le_of_ble_eq_true rfl | (simp only [headSpec]; omega)⟩ hK hP hD hS hA [0, 1] (by decide) rfl rfl (ci := 8) rfl rfl rfl rfl rfl hl.1 (Nat.le_of_ble_eq_true rfl) dX9_spells_39 ⟨Nat.zero_le _, Nat.zero_le _⟩ [(h_t, .inr (8, [.int t_genus, .int t_marks, .ref h_t_powers, .int t_leaves, .int t_splits, .ref h_t_tree, .ref h_t_ahead, .ref h_t_behind, .ref h_t_before, .int t_done, .int t_undone, .ref h_t_rows, .ref h_t_met, .ref h_t_metSizes, .int t_metMany, .int t_treesSeen, .ref h_t_chosen, .ref h_t_tape, .int t_taped, .int t_place, .int t_isWrong, .int t_toldGenus, .int t_toldMarks, .ref h_t_toldPowers, .ref h_t_powerPlaces, .int t_isTree, .int t_toldLeaves, .int t_leavesPlace, .int t_toldSplits, .ref h_t_toldTree, .ref h_t_splitPlaces, .ref h_t_layers, .int t_isWhy, .ref h_t_paper, .int (x18.2), .ref h_t_held, .ref h_t_numbers, .ref h_t_sizes, .ref h_t_heldLeaves, .ref h_t_items, .ref h_t_kept, .int t_isKept])), (h_t_paper, .inl (cI, 80, .inl (x18.1))), (h_t_powers, .inl (cI, 8, .inl a_t_powers)), (h_t_tree, .inl (cI, 3, .inl a_t_tree))] [1, 2, 0, 0] 2 (by decide +kernel) rfl rfl rfl (fun hp18 H locs hP hD hS => ?_)
      exact hJ_X9_spells_42 (x18.1) (x18.2) _ _ _ hP hD hS (lv_sub hl [0, 1] rfl) h
  exact hL24 FU (x2.1) (x2.2) (0 : Int32) _ _ _ hP hD hS (lv_sub hl [1, 0] rfl) h

/-! X9_spell -/
set_option maxHeartbeats 4000000 in
set_option maxRecDepth 100000 in
theorem c_X9_spell (l : Launch) (G : va_G) (cI cJ cD cH : ClassId) (sz : Nat) (h_t : Nat) (h_t_paper : Nat) (h_t_powers : Nat) (h_t_tree : Nat) (h_t_ahead : Nat) (h_t_behind : Nat) (h_t_before : Nat) (h_t_rows : Nat) (h_t_met : Nat) (h_t_metSizes : Nat) (h_t_chosen : Nat) (h_t_tape : Nat) (h_t_toldPowers : Nat) (h_t_powerPlaces : Nat) (h_t_toldTree : Nat) (h_t_splitPlaces : Nat) (h_t_layers : Nat) (h_t_held : Nat) (h_t_numbers : Nat) (h_t_sizes : Nat) (h_t_heldLeaves : Nat) (h_t_items : Nat) (h_t_kept : Nat) (t_genus : Int32) (t_marks : Int32) (t_leaves : Int32) (t_splits : Int32) (t_done : Int32) (t_undone : Int32) (t_metMany : Int32) (t_treesSeen : Int32) (t_taped : Int32) (t_place : Int32) (t_isWrong : Int32) (t_toldGenus : Int32) (t_toldMarks : Int32) (t_isTree : Int32) (t_toldLeaves : Int32) (t_leavesPlace : Int32) (t_toldSplits : Int32) (t_isWhy : Int32) (t_papered : Int32) (t_isKept : Int32) (a_t_paper : Nat → Int32) (a_t_powers : Nat → Int32) (a_t_tree : Nat → Int32) (p0 : Int32) (r0 : Int32) (w0 : Nat → Int32) (w1 : Int32) (hF : F_X9_spell t_genus t_marks t_leaves t_splits t_papered a_t_paper a_t_powers a_t_tree p0 = some (r0, w0, w1)) : Met l yX9_spell wsX9_spell ({ frames := 2, cells := 0, slots := 0, locals := 43 }) (k_pre G (k_T cI cJ cD cH) [(h_t, .inr (8, [.int t_genus, .int t_marks, .ref h_t_powers, .int t_leaves, .int t_splits, .ref h_t_tree, .ref h_t_ahead, .ref h_t_behind, .ref h_t_before, .int t_done, .int t_undone, .ref h_t_rows, .ref h_t_met, .ref h_t_metSizes, .int t_metMany, .int t_treesSeen, .ref h_t_chosen, .ref h_t_tape, .int t_taped, .int t_place, .int t_isWrong, .int t_toldGenus, .int t_toldMarks, .ref h_t_toldPowers, .ref h_t_powerPlaces, .int t_isTree, .int t_toldLeaves, .int t_leavesPlace, .int t_toldSplits, .ref h_t_toldTree, .ref h_t_splitPlaces, .ref h_t_layers, .int t_isWhy, .ref h_t_paper, .int t_papered, .ref h_t_held, .ref h_t_numbers, .ref h_t_sizes, .ref h_t_heldLeaves, .ref h_t_items, .ref h_t_kept, .int t_isKept])), (h_t_paper, .inl (cI, 80, .inl a_t_paper)), (h_t_powers, .inl (cI, 8, .inl a_t_powers)), (h_t_tree, .inl (cI, 3, .inl a_t_tree))] sz [.ref h_t, .int p0]) (va_Qi (fun r (_ : Unit) => r = r0 ∧ True) (fun _ t => va_P G vwCl [(h_t, .inr (8, [.int t_genus, .int t_marks, .ref h_t_powers, .int t_leaves, .int t_splits, .ref h_t_tree, .ref h_t_ahead, .ref h_t_behind, .ref h_t_before, .int t_done, .int t_undone, .ref h_t_rows, .ref h_t_met, .ref h_t_metSizes, .int t_metMany, .int t_treesSeen, .ref h_t_chosen, .ref h_t_tape, .int t_taped, .int t_place, .int t_isWrong, .int t_toldGenus, .int t_toldMarks, .ref h_t_toldPowers, .ref h_t_powerPlaces, .int t_isTree, .int t_toldLeaves, .int t_leavesPlace, .int t_toldSplits, .ref h_t_toldTree, .ref h_t_splitPlaces, .ref h_t_layers, .int t_isWhy, .ref h_t_paper, .int w1, .ref h_t_held, .ref h_t_numbers, .ref h_t_sizes, .ref h_t_heldLeaves, .ref h_t_items, .ref h_t_kept, .int t_isKept])), (h_t_paper, .inl (cI, 80, .inl w0)), (h_t_powers, .inl (cI, 8, .inl a_t_powers)), (h_t_tree, .inl (cI, 3, .inl a_t_tree))] t.heap) (va_A [(h_t, .inr (8, [.int t_genus, .int t_marks, .ref h_t_powers, .int t_leaves, .int t_splits, .ref h_t_tree, .ref h_t_ahead, .ref h_t_behind, .ref h_t_before, .int t_done, .int t_undone, .ref h_t_rows, .ref h_t_met, .ref h_t_metSizes, .int t_metMany, .int t_treesSeen, .ref h_t_chosen, .ref h_t_tape, .int t_taped, .int t_place, .int t_isWrong, .int t_toldGenus, .int t_toldMarks, .ref h_t_toldPowers, .ref h_t_powerPlaces, .int t_isTree, .int t_toldLeaves, .int t_leavesPlace, .int t_toldSplits, .ref h_t_toldTree, .ref h_t_splitPlaces, .ref h_t_layers, .int t_isWhy, .ref h_t_paper, .int t_papered, .ref h_t_held, .ref h_t_numbers, .ref h_t_sizes, .ref h_t_heldLeaves, .ref h_t_items, .ref h_t_kept, .int t_isKept])), (h_t_paper, .inl (cI, 80, .inl a_t_paper)), (h_t_powers, .inl (cI, 8, .inl a_t_powers)), (h_t_tree, .inl (cI, 3, .inl a_t_tree))] sz)) 0 0 (va_A [(h_t, .inr (8, [.int t_genus, .int t_marks, .ref h_t_powers, .int t_leaves, .int t_splits, .ref h_t_tree, .ref h_t_ahead, .ref h_t_behind, .ref h_t_before, .int t_done, .int t_undone, .ref h_t_rows, .ref h_t_met, .ref h_t_metSizes, .int t_metMany, .int t_treesSeen, .ref h_t_chosen, .ref h_t_tape, .int t_taped, .int t_place, .int t_isWrong, .int t_toldGenus, .int t_toldMarks, .ref h_t_toldPowers, .ref h_t_powerPlaces, .int t_isTree, .int t_toldLeaves, .int t_leavesPlace, .int t_toldSplits, .ref h_t_toldTree, .ref h_t_splitPlaces, .ref h_t_layers, .int t_isWhy, .ref h_t_paper, .int t_papered, .ref h_t_held, .ref h_t_numbers, .ref h_t_sizes, .ref h_t_heldLeaves, .ref h_t_items, .ref h_t_kept, .int t_isKept])), (h_t_paper, .inl (cI, 80, .inl a_t_paper)), (h_t_powers, .inl (cI, 8, .inl a_t_powers)), (h_t_tree, .inl (cI, 3, .inl a_t_tree))] sz) := by
  refine Met.ofW (cc := cX9_spell) (maxL := 2) (ret := (some .int)) (by decide) rfl ?_
  intro p e s m args below meth c s₁ B hml hv
  obtain ⟨rfl, hsz, hP, hK, hD0⟩ := hv
  have hx := B.exec
  have hb := B.bytes
  have hr := B.returns
  have hts := atoms_spec (ws := wsX9_spell) B.pre
  have hta : ∀ w ∈ wA, w.before ([.ref h_t, .int p0] : List Value).toArray s = true := hta_of hts
  have hown : s.vm.findClass RX9 = some m.cls := findClass_of_methodNamed B.named
  have hlocks := B.notSynchronized
  subst hsz
  have hD := hD0.self (sz := s.heap.size)
  generalize hAe : va_A [(h_t, .inr (8, [.int t_genus, .int t_marks, .ref h_t_powers, .int t_leaves, .int t_splits, .ref h_t_tree, .ref h_t_ahead, .ref h_t_behind, .ref h_t_before, .int t_done, .int t_undone, .ref h_t_rows, .ref h_t_met, .ref h_t_metSizes, .int t_metMany, .int t_treesSeen, .ref h_t_chosen, .ref h_t_tape, .int t_taped, .int t_place, .int t_isWrong, .int t_toldGenus, .int t_toldMarks, .ref h_t_toldPowers, .ref h_t_powerPlaces, .int t_isTree, .int t_toldLeaves, .int t_leavesPlace, .int t_toldSplits, .ref h_t_toldTree, .ref h_t_splitPlaces, .ref h_t_layers, .int t_isWhy, .ref h_t_paper, .int t_papered, .ref h_t_held, .ref h_t_numbers, .ref h_t_sizes, .ref h_t_heldLeaves, .ref h_t_items, .ref h_t_kept, .int t_isKept])), (h_t_paper, .inl (cI, 80, .inl a_t_paper)), (h_t_powers, .inl (cI, 8, .inl a_t_powers)), (h_t_tree, .inl (cI, 3, .inl a_t_tree))] s.heap.size = A at hD ⊢
  have hA : ∀ q : Nat, s.heap.size ≤ q → A q := fun q h => by rw [← hAe]; exact Or.inr h
  have hS : va_S A s.heap s.heap [] := va_S.rf
  have hl := lv_entry ([.ref h_t, .int p0]) (n := 2) (Nat.le_of_ble_eq_true rfl)
  rw [lg_entry_eq]
  generalize (lg_sl ([.ref h_t, .int p0]) ++ List.replicate (2 - (lg_sl ([.ref h_t, .int p0])).length) Slot.unset).toArray = ls at hl ⊢
  have hl : lv_has ls 2 [(0, .ref h_t), (1, .int p0)] := hl
  have hinX9 : ∀ w ∈ wsX90, w ∈ wsX9_spell := hin_of in_X9
  have h := hF
  unfold F_X9_spell at h
  refine lv_iload_n hx hb dX9_spell_0 rfl (lv_at hl 1 rfl) ?_
  refine lv_iconst (v := (-1 : Int32)) hx hb dX9_spell_1 (by decide) ?_
  refine lv_icmp_ge (tgt := 7) hx hb dX9_spell_2 (by decide) (fun c1 => ?_) (fun c1 => ?_)
  rotate_left
  · have h := it_n h c1
    refine lv_iconst (v := (-1 : Int32)) hx hb dX9_spell_5 (by decide) ?_
    have h9 := Option.some.inj h
    have e9 : (-1 : Int32) = r0 := congrArg (fun z9 => z9.1) h9
    rw [← e9]
    have e9 : a_t_paper = w0 := congrArg (fun z9 => z9.2.1) h9
    rw [← e9]
    have e9 : t_papered = w1 := congrArg (fun z9 => z9.2.2) h9
    rw [← e9]
    exact k_iret hx hb hr hlocks hP hS rfl dX9_spell_6
  have h := it_p h c1
  refine lv_aload_n hx hb dX9_spell_7 rfl (lv_at hl 0 rfl) ?_
  obtain ⟨x2, hx2, h⟩ := bd_e h
  try dsimp only at h
  refine k_VvM (n := 0) (As := []) (rest := []) hx hb hml hown hts (c_X9_spells l G cI cJ cD cH s.heap.size h_t h_t_paper h_t_powers h_t_tree h_t_ahead h_t_behind h_t_before h_t_rows h_t_met h_t_metSizes h_t_chosen h_t_tape h_t_toldPowers h_t_powerPlaces h_t_toldTree h_t_splitPlaces h_t_layers h_t_held h_t_numbers h_t_sizes h_t_heldLeaves h_t_items h_t_kept t_genus t_marks t_leaves t_splits t_done t_undone t_metMany t_treesSeen t_taped t_place t_isWrong t_toldGenus t_toldMarks t_isTree t_toldLeaves t_leavesPlace t_toldSplits t_isWhy t_papered t_isKept a_t_paper a_t_powers a_t_tree (x2.1) (x2.2) hx2) gX9_spell_X9_spells rfl rfl rfl (by decide +kernel) ⟨by first | exact Nat.le_of_ble_eq_true rfl | (simp only [headSpec]; omega), by first | exact Nat.le_of_ble_eq_true rfl | (simp only [headSpec]; omega)⟩ hK hP hD hS hA [0, 1, 2, 3] (by decide) rfl rfl (ci := 8) rfl rfl rfl rfl rfl hl.1 (Nat.le_of_ble_eq_true rfl) dX9_spell_8 ⟨Nat.zero_le _, Nat.zero_le _⟩ [(h_t, .inr (8, [.int t_genus, .int t_marks, .ref h_t_powers, .int t_leaves, .int t_splits, .ref h_t_tree, .ref h_t_ahead, .ref h_t_behind, .ref h_t_before, .int t_done, .int t_undone, .ref h_t_rows, .ref h_t_met, .ref h_t_metSizes, .int t_metMany, .int t_treesSeen, .ref h_t_chosen, .ref h_t_tape, .int t_taped, .int t_place, .int t_isWrong, .int t_toldGenus, .int t_toldMarks, .ref h_t_toldPowers, .ref h_t_powerPlaces, .int t_isTree, .int t_toldLeaves, .int t_leavesPlace, .int t_toldSplits, .ref h_t_toldTree, .ref h_t_splitPlaces, .ref h_t_layers, .int t_isWhy, .ref h_t_paper, .int (x2.2), .ref h_t_held, .ref h_t_numbers, .ref h_t_sizes, .ref h_t_heldLeaves, .ref h_t_items, .ref h_t_kept, .int t_isKept])), (h_t_paper, .inl (cI, 80, .inl (x2.1))), (h_t_powers, .inl (cI, 8, .inl a_t_powers)), (h_t_tree, .inl (cI, 3, .inl a_t_tree))] [1, 2, 3, 4] 4 (by decide +kernel) rfl rfl rfl (fun hp2 H locs hP hD hS => ?_)
  refine lv_iload_n hx hb dX9_spell_11 rfl (lv_at hl 1 rfl) ?_
  refine lv_iconst (v := (-1 : Int32)) hx hb dX9_spell_12 (by decide) ?_
  refine lv_icmp_ne (tgt := 23) hx hb dX9_spell_13 (by decide) (fun c3 => ?_) (fun c3 => ?_)
  rotate_left
  · have h := it_p h c3
    refine lv_aload_n hx hb dX9_spell_16 rfl (lv_at hl 0 rfl) ?_
    refine va_get (D := G) (ci := 8) (v := .int (x2.2)) (C := RX9) (T := TX9) (N := 42) hx hb hts hinX9 hown hK hP 0 rfl rfl 34 (by decide) (hta _ mw_855) (fun _ h9 => h9) rfl dX9_spell_17 ?_
    refine lv_goto (tgt := 42) hx hb dX9_spell_20 (by decide) ?_
    have h9 := Option.some.inj h
    have e9 : (x2.2) = r0 := congrArg (fun z9 => z9.1) h9
    rw [← e9]
    have e9 : (x2.1) = w0 := congrArg (fun z9 => z9.2.1) h9
    rw [← e9]
    have e9 : (x2.2) = w1 := congrArg (fun z9 => z9.2.2) h9
    rw [← e9]
    exact k_iret hx hb hr hlocks hP hS rfl dX9_spell_42
  have h := it_n h c3
  refine lv_iload_n hx hb dX9_spell_23 rfl (lv_at hl 1 rfl) ?_
  refine lv_aload_n hx hb dX9_spell_24 rfl (lv_at hl 0 rfl) ?_
  refine va_get (D := G) (ci := 8) (v := .int (x2.2)) (C := RX9) (T := TX9) (N := 42) hx hb hts hinX9 hown hK hP 0 rfl rfl 34 (by decide) (hta _ mw_855) (fun _ h9 => h9) rfl dX9_spell_25 ?_
  refine lv_icmp_ge (tgt := 40) hx hb dX9_spell_28 (by decide) (fun c4 => ?_) (fun c4 => ?_)
  · have h := it_p h c4
    refine lv_bipush (v := (-2 : Int32)) hx hb dX9_spell_40 (by decide) ?_
    have h9 := Option.some.inj h
    have e9 : (-2 : Int32) = r0 := congrArg (fun z9 => z9.1) h9
    rw [← e9]
    have e9 : (x2.1) = w0 := congrArg (fun z9 => z9.2.1) h9
    rw [← e9]
    have e9 : (x2.2) = w1 := congrArg (fun z9 => z9.2.2) h9
    rw [← e9]
    exact k_iret hx hb hr hlocks hP hS rfl dX9_spell_42
  have h := it_n h c4
  refine lv_aload_n hx hb dX9_spell_31 rfl (lv_at hl 0 rfl) ?_
  refine va_get (D := G) (ci := 8) (v := .ref h_t_paper) (C := RX9) (T := TX9) (N := 42) hx hb hts hinX9 hown hK hP 0 rfl rfl 33 (by decide) (hta _ mw_625) (fun _ h9 => h9) rfl dX9_spell_32 ?_
  refine lv_iload_n hx hb dX9_spell_35 rfl (lv_at hl 1 rfl) ?_
  obtain ⟨hn5, h⟩ := ck_e h
  refine va_iald hx hb hK hP 1 0 rfl rfl hn5 dX9_spell_36 ?_
  refine lv_goto (tgt := 42) hx hb dX9_spell_37 (by decide) ?_
  have h9 := Option.some.inj h
  have e9 : ((x2.1) p0.toNatClampNeg) = r0 := congrArg (fun z9 => z9.1) h9
  rw [← e9]
  have e9 : (x2.1) = w0 := congrArg (fun z9 => z9.2.1) h9
  rw [← e9]
  have e9 : (x2.2) = w1 := congrArg (fun z9 => z9.2.2) h9
  rw [← e9]
  exact k_iret hx hb hr hlocks hP hS rfl dX9_spell_42

/-! X9_isHolder -/
set_option maxHeartbeats 4000000 in
set_option maxRecDepth 100000 in
theorem c_X9_isHolder (l : Launch) (G : va_G) (cI cJ cD cH : ClassId) (sz : Nat) (p0 : Int32) (r0 : Int32) (hF : F_X9_isHolder p0 = some r0) : Met l yX9_isHolder wsX9_isHolder ({ frames := 1, cells := 0, slots := 0, locals := 25 }) (k_pre G (k_T cI cJ cD cH) [] sz [.int p0]) (va_Qi (fun r (_ : Unit) => r = r0 ∧ narrow .boolean (.int r0) = .int r0) (fun _ t => va_P G vwCl [] t.heap) (va_A [] sz)) 0 0 (va_A [] sz) := by
  refine Met.ofW (cc := cX9_isHolder) (maxL := 1) (ret := (some .boolean)) (by decide) rfl ?_
  intro p e s m args below meth c s₁ B hml hv
  obtain ⟨rfl, hsz, hP, hK, hD0⟩ := hv
  have hx := B.exec
  have hb := B.bytes
  have hr := B.returns
  have hts := atoms_spec (ws := wsX9_isHolder) B.pre
  have hta : ∀ w ∈ wA, w.before ([.int p0] : List Value).toArray s = true := hta_of hts
  have hown : s.vm.findClass RX9 = some m.cls := findClass_of_methodNamed B.named
  have hlocks := B.notSynchronized
  subst hsz
  have hD := hD0.self (sz := s.heap.size)
  generalize hAe : va_A [] s.heap.size = A at hD ⊢
  have hA : ∀ q : Nat, s.heap.size ≤ q → A q := fun q h => by rw [← hAe]; exact Or.inr h
  have hS : va_S A s.heap s.heap [] := va_S.rf
  have hl := lv_entry ([.int p0]) (n := 1) (Nat.le_of_ble_eq_true rfl)
  rw [lg_entry_eq]
  generalize (lg_sl ([.int p0]) ++ List.replicate (1 - (lg_sl ([.int p0])).length) Slot.unset).toArray = ls at hl ⊢
  have hl : lv_has ls 1 [(0, .int p0)] := hl
  have h := hF
  unfold F_X9_isHolder at h
  refine lv_iload_n hx hb dX9_isHolder_0 rfl (lv_at hl 0 rfl) ?_
  refine lv_i2l (v := p0.toInt64) hx hb dX9_isHolder_1 (by first | rfl | decide) ?_
  refine lv_lconst (v := (0 : Int64)) hx hb dX9_isHolder_2 (by decide) ?_
  refine lv_ldc2 (v := (5 : Int64)) hx hb hown (hta _ mw_687) dX9_isHolder_3 ?_
  obtain ⟨x1, hx1, h⟩ := bd_e h
  try dsimp only at h
  refine k_SiU (n := 3) (As := [.long p0.toInt64, .long (0 : Int64), .long (5 : Int64)]) (rest := []) hx hb hml hown hts (c_X9_in l G cI cJ cD cH s.heap.size p0.toInt64 (0 : Int64) (5 : Int64) x1 hx1) gX9_isHolder_X9_in rfl rfl rfl (by decide +kernel) ⟨by first | exact Nat.le_of_ble_eq_true rfl | (simp only [headSpec]; omega), by first | exact Nat.le_of_ble_eq_true rfl | (simp only [headSpec]; omega)⟩ hK hP hD hS hA [] (by decide) rfl rfl rfl hl.1 (Nat.le_of_ble_eq_true rfl) dX9_isHolder_6 ⟨Nat.zero_le _, Nat.zero_le _⟩ (fun hp1 H locs hP hS => ?_)
  have h9 := Option.some.inj h
  have e9 : x1 = r0 := congrArg (fun z9 => z9) h9
  rw [← e9]
  exact k_zret hx hb hr hlocks hP hS rfl hp1 dX9_isHolder_9

/-! X9_hold -/
set_option maxHeartbeats 4000000 in
set_option maxRecDepth 100000 in
theorem tK_X9_hold_110_141 {l : Launch} {G : va_G} {cI cJ cD cH : ClassId} {h_t : Nat} {h_t_held : Nat} {h_t_heldLeaves : Nat} {h_t_sizes : Nat} {h_t_items : Nat} {h_t_tree : Nat} {h_t_numbers : Nat} {h_t_rows : Nat} {h_t_powers : Nat} {h_t_ahead : Nat} {h_t_behind : Nat} {h_t_before : Nat} {h_t_met : Nat} {h_t_metSizes : Nat} {h_t_chosen : Nat} {h_t_tape : Nat} {h_t_toldPowers : Nat} {h_t_powerPlaces : Nat} {h_t_toldTree : Nat} {h_t_splitPlaces : Nat} {h_t_layers : Nat} {h_t_paper : Nat} {h_t_kept : Nat} {t_genus : Int32} {t_marks : Int32} {t_leaves : Int32} {t_splits : Int32} {t_done : Int32} {t_undone : Int32} {t_metMany : Int32} {t_treesSeen : Int32} {t_taped : Int32} {t_place : Int32} {t_isWrong : Int32} {t_toldGenus : Int32} {t_toldMarks : Int32} {t_isTree : Int32} {t_toldLeaves : Int32} {t_leavesPlace : Int32} {t_toldSplits : Int32} {t_isWhy : Int32} {t_papered : Int32} {t_isKept : Int32} {a_t_held : Nat → Int32} {a_t_heldLeaves : Nat → Int32} {a_t_sizes : Nat → Int32} {a_t_tree : Nat → Int32} {a_t_numbers : Nat → Int64} {a_t_rows : Nat → Int32} {a_t_powers : Nat → Int32} {p0 : Int32} {p1 : Int32} {r0 : Int32} {w0 : Nat → Int32} {w1 : Nat → Int32} {w2 : Nat → Int32} {w3 : Nat → Int32} {w4 : Nat → Int64} {w5 : Nat → Int32} {p : Program} {e : Env} {s : State} {m : MethodId} {below : List Frame} {meth : Method} {c : Code} {A : Nat → Prop} (hx : p.tables.exec = Jvm.exec) (hb : c.code = cX9_hold) (hr : meth.sig.returnType = (some .int)) (hml : c.maxLocals = 4) (hts : ∀ w ∈ wsX9_hold, w.before ([.ref h_t, .int p0, .int p1] : List Value).toArray s = true) (hown : s.vm.findClass RX9 = some m.cls) (hlocks : meth.locks = false) (hK : va_K G vwCl (k_T cI cJ cD cH) s) (hA : ∀ q : Nat, s.heap.size ≤ q → A q) : ∀  (vK110_141_0 : Nat → Int32) (H : Heap) (locs : List Loc) (ls : Array Slot), va_P G vwCl [(h_t, .inr (8, [.int t_genus, .int t_marks, .ref h_t_powers, .int t_leaves, .int t_splits, .ref h_t_tree, .ref h_t_ahead, .ref h_t_behind, .ref h_t_before, .int t_done, .int t_undone, .ref h_t_rows, .ref h_t_met, .ref h_t_metSizes, .int t_metMany, .int t_treesSeen, .ref h_t_chosen, .ref h_t_tape, .int t_taped, .int t_place, .int t_isWrong, .int t_toldGenus, .int t_toldMarks, .ref h_t_toldPowers, .ref h_t_powerPlaces, .int t_isTree, .int t_toldLeaves, .int t_leavesPlace, .int t_toldSplits, .ref h_t_toldTree, .ref h_t_splitPlaces, .ref h_t_layers, .int t_isWhy, .ref h_t_paper, .int t_papered, .ref h_t_held, .ref h_t_numbers, .ref h_t_sizes, .ref h_t_heldLeaves, .ref h_t_items, .ref h_t_kept, .int t_isKept])), (h_t_held, .inl (cI, 6, .inl (upd a_t_held p0.toNatClampNeg (p1 + (1 : Int32))))), (h_t_heldLeaves, .inl (cI, 6, .inl (upd a_t_heldLeaves p0.toNatClampNeg t_leaves))), (h_t_sizes, .inl (cI, 6, .inl (upd a_t_sizes p0.toNatClampNeg t_splits))), (h_t_items, .inl (cI, 120, .inl vK110_141_0)), (h_t_tree, .inl (cI, 3, .inl a_t_tree)), (h_t_numbers, .inl (cJ, 6, .inr (.inl a_t_numbers))), (h_t_rows, .inl (cI, 480, .inl a_t_rows)), (h_t_powers, .inl (cI, 8, .inl a_t_powers))] H → va_D A [(h_t, .inr (8, [.int t_genus, .int t_marks, .ref h_t_powers, .int t_leaves, .int t_splits, .ref h_t_tree, .ref h_t_ahead, .ref h_t_behind, .ref h_t_before, .int t_done, .int t_undone, .ref h_t_rows, .ref h_t_met, .ref h_t_metSizes, .int t_metMany, .int t_treesSeen, .ref h_t_chosen, .ref h_t_tape, .int t_taped, .int t_place, .int t_isWrong, .int t_toldGenus, .int t_toldMarks, .ref h_t_toldPowers, .ref h_t_powerPlaces, .int t_isTree, .int t_toldLeaves, .int t_leavesPlace, .int t_toldSplits, .ref h_t_toldTree, .ref h_t_splitPlaces, .ref h_t_layers, .int t_isWhy, .ref h_t_paper, .int t_papered, .ref h_t_held, .ref h_t_numbers, .ref h_t_sizes, .ref h_t_heldLeaves, .ref h_t_items, .ref h_t_kept, .int t_isKept])), (h_t_held, .inl (cI, 6, .inl (upd a_t_held p0.toNatClampNeg (p1 + (1 : Int32))))), (h_t_heldLeaves, .inl (cI, 6, .inl (upd a_t_heldLeaves p0.toNatClampNeg t_leaves))), (h_t_sizes, .inl (cI, 6, .inl (upd a_t_sizes p0.toNatClampNeg t_splits))), (h_t_items, .inl (cI, 120, .inl vK110_141_0)), (h_t_tree, .inl (cI, 3, .inl a_t_tree)), (h_t_numbers, .inl (cJ, 6, .inr (.inl a_t_numbers))), (h_t_rows, .inl (cI, 480, .inl a_t_rows)), (h_t_powers, .inl (cI, 8, .inl a_t_powers))] → va_S A s.heap H locs → lv_has ls 4 [(0, .ref h_t)] → K_X9_hold_110_141 t_leaves t_splits a_t_held a_t_heldLeaves a_t_sizes a_t_numbers a_t_rows p0 p1 vK110_141_0 = some (r0, w0, w1, w2, w3, w4, w5) → W p l e (headSpec wsX9_hold ({ frames := 22, cells := 0, slots := 0, locals := 622 })).room s m ([.ref h_t, .int p0, .int p1] : List Value).toArray below meth c H locs 0 0 (MQ below (va_Qi (fun r (_ : Unit) => r = r0 ∧ True) (fun _ t => va_P G vwCl [(h_t, .inr (8, [.int t_genus, .int t_marks, .ref h_t_powers, .int t_leaves, .int t_splits, .ref h_t_tree, .ref h_t_ahead, .ref h_t_behind, .ref h_t_before, .int t_done, .int t_undone, .ref h_t_rows, .ref h_t_met, .ref h_t_metSizes, .int t_metMany, .int t_treesSeen, .ref h_t_chosen, .ref h_t_tape, .int t_taped, .int t_place, .int t_isWrong, .int t_toldGenus, .int t_toldMarks, .ref h_t_toldPowers, .ref h_t_powerPlaces, .int t_isTree, .int t_toldLeaves, .int t_leavesPlace, .int t_toldSplits, .ref h_t_toldTree, .ref h_t_splitPlaces, .ref h_t_layers, .int t_isWhy, .ref h_t_paper, .int t_papered, .ref h_t_held, .ref h_t_numbers, .ref h_t_sizes, .ref h_t_heldLeaves, .ref h_t_items, .ref h_t_kept, .int t_isKept])), (h_t_held, .inl (cI, 6, .inl w0)), (h_t_heldLeaves, .inl (cI, 6, .inl w1)), (h_t_sizes, .inl (cI, 6, .inl w2)), (h_t_items, .inl (cI, 120, .inl w3)), (h_t_tree, .inl (cI, 3, .inl a_t_tree)), (h_t_numbers, .inl (cJ, 6, .inr (.inl w4))), (h_t_rows, .inl (cI, 480, .inl w5)), (h_t_powers, .inl (cI, 8, .inl a_t_powers))] t.heap) A) ([.ref h_t, .int p0, .int p1] : List Value).toArray s 0 0 A) (F0 m 141 ls []) := by
  have hta : ∀ w ∈ wA, w.before ([.ref h_t, .int p0, .int p1] : List Value).toArray s = true := hta_of hts
  have hinX9 : ∀ w ∈ wsX90, w ∈ wsX9_hold := hin_of in_X9
  intro vK110_141_0 H locs ls hP hD hS hl h
  unfold K_X9_hold_110_141 at h
  refine lv_aload_n hx hb dX9_hold_141 rfl (lv_at hl 0 rfl) ?_
  refine va_get (D := G) (ci := 8) (v := .int t_splits) (C := RX9) (T := TX9) (N := 42) hx hb hts hinX9 hown hK hP 0 rfl rfl 4 (by decide) (hta _ mw_642) (fun _ h9 => h9) rfl dX9_hold_142 ?_
  have h9 := Option.some.inj h
  have e9 : t_splits = r0 := congrArg (fun z9 => z9.1) h9
  rw [← e9]
  have e9 : (upd a_t_held p0.toNatClampNeg (p1 + (1 : Int32))) = w0 := congrArg (fun z9 => z9.2.1) h9
  rw [← e9]
  have e9 : (upd a_t_heldLeaves p0.toNatClampNeg t_leaves) = w1 := congrArg (fun z9 => z9.2.2.1) h9
  rw [← e9]
  have e9 : (upd a_t_sizes p0.toNatClampNeg t_splits) = w2 := congrArg (fun z9 => z9.2.2.2.1) h9
  rw [← e9]
  have e9 : vK110_141_0 = w3 := congrArg (fun z9 => z9.2.2.2.2.1) h9
  rw [← e9]
  have e9 : a_t_numbers = w4 := congrArg (fun z9 => z9.2.2.2.2.2.1) h9
  rw [← e9]
  have e9 : a_t_rows = w5 := congrArg (fun z9 => z9.2.2.2.2.2.2) h9
  rw [← e9]
  exact k_iret hx hb hr hlocks hP hS rfl dX9_hold_145
set_option maxHeartbeats 4000000 in
set_option maxRecDepth 100000 in
theorem c_X9_hold (l : Launch) (G : va_G) (cI cJ cD cH : ClassId) (sz : Nat) (h_t : Nat) (h_t_held : Nat) (h_t_heldLeaves : Nat) (h_t_sizes : Nat) (h_t_items : Nat) (h_t_tree : Nat) (h_t_numbers : Nat) (h_t_rows : Nat) (h_t_powers : Nat) (h_t_ahead : Nat) (h_t_behind : Nat) (h_t_before : Nat) (h_t_met : Nat) (h_t_metSizes : Nat) (h_t_chosen : Nat) (h_t_tape : Nat) (h_t_toldPowers : Nat) (h_t_powerPlaces : Nat) (h_t_toldTree : Nat) (h_t_splitPlaces : Nat) (h_t_layers : Nat) (h_t_paper : Nat) (h_t_kept : Nat) (t_genus : Int32) (t_marks : Int32) (t_leaves : Int32) (t_splits : Int32) (t_done : Int32) (t_undone : Int32) (t_metMany : Int32) (t_treesSeen : Int32) (t_taped : Int32) (t_place : Int32) (t_isWrong : Int32) (t_toldGenus : Int32) (t_toldMarks : Int32) (t_isTree : Int32) (t_toldLeaves : Int32) (t_leavesPlace : Int32) (t_toldSplits : Int32) (t_isWhy : Int32) (t_papered : Int32) (t_isKept : Int32) (a_t_held : Nat → Int32) (a_t_heldLeaves : Nat → Int32) (a_t_sizes : Nat → Int32) (a_t_items : Nat → Int32) (a_t_tree : Nat → Int32) (a_t_numbers : Nat → Int64) (a_t_rows : Nat → Int32) (a_t_powers : Nat → Int32) (p0 : Int32) (p1 : Int32) (r0 : Int32) (w0 : Nat → Int32) (w1 : Nat → Int32) (w2 : Nat → Int32) (w3 : Nat → Int32) (w4 : Nat → Int64) (w5 : Nat → Int32) (hF : F_X9_hold t_genus t_marks t_leaves t_splits a_t_held a_t_heldLeaves a_t_sizes a_t_items a_t_tree a_t_numbers a_t_rows a_t_powers p0 p1 = some (r0, w0, w1, w2, w3, w4, w5)) : Met l yX9_hold wsX9_hold ({ frames := 22, cells := 0, slots := 0, locals := 622 }) (k_pre G (k_T cI cJ cD cH) [(h_t, .inr (8, [.int t_genus, .int t_marks, .ref h_t_powers, .int t_leaves, .int t_splits, .ref h_t_tree, .ref h_t_ahead, .ref h_t_behind, .ref h_t_before, .int t_done, .int t_undone, .ref h_t_rows, .ref h_t_met, .ref h_t_metSizes, .int t_metMany, .int t_treesSeen, .ref h_t_chosen, .ref h_t_tape, .int t_taped, .int t_place, .int t_isWrong, .int t_toldGenus, .int t_toldMarks, .ref h_t_toldPowers, .ref h_t_powerPlaces, .int t_isTree, .int t_toldLeaves, .int t_leavesPlace, .int t_toldSplits, .ref h_t_toldTree, .ref h_t_splitPlaces, .ref h_t_layers, .int t_isWhy, .ref h_t_paper, .int t_papered, .ref h_t_held, .ref h_t_numbers, .ref h_t_sizes, .ref h_t_heldLeaves, .ref h_t_items, .ref h_t_kept, .int t_isKept])), (h_t_held, .inl (cI, 6, .inl a_t_held)), (h_t_heldLeaves, .inl (cI, 6, .inl a_t_heldLeaves)), (h_t_sizes, .inl (cI, 6, .inl a_t_sizes)), (h_t_items, .inl (cI, 120, .inl a_t_items)), (h_t_tree, .inl (cI, 3, .inl a_t_tree)), (h_t_numbers, .inl (cJ, 6, .inr (.inl a_t_numbers))), (h_t_rows, .inl (cI, 480, .inl a_t_rows)), (h_t_powers, .inl (cI, 8, .inl a_t_powers))] sz [.ref h_t, .int p0, .int p1]) (va_Qi (fun r (_ : Unit) => r = r0 ∧ True) (fun _ t => va_P G vwCl [(h_t, .inr (8, [.int t_genus, .int t_marks, .ref h_t_powers, .int t_leaves, .int t_splits, .ref h_t_tree, .ref h_t_ahead, .ref h_t_behind, .ref h_t_before, .int t_done, .int t_undone, .ref h_t_rows, .ref h_t_met, .ref h_t_metSizes, .int t_metMany, .int t_treesSeen, .ref h_t_chosen, .ref h_t_tape, .int t_taped, .int t_place, .int t_isWrong, .int t_toldGenus, .int t_toldMarks, .ref h_t_toldPowers, .ref h_t_powerPlaces, .int t_isTree, .int t_toldLeaves, .int t_leavesPlace, .int t_toldSplits, .ref h_t_toldTree, .ref h_t_splitPlaces, .ref h_t_layers, .int t_isWhy, .ref h_t_paper, .int t_papered, .ref h_t_held, .ref h_t_numbers, .ref h_t_sizes, .ref h_t_heldLeaves, .ref h_t_items, .ref h_t_kept, .int t_isKept])), (h_t_held, .inl (cI, 6, .inl w0)), (h_t_heldLeaves, .inl (cI, 6, .inl w1)), (h_t_sizes, .inl (cI, 6, .inl w2)), (h_t_items, .inl (cI, 120, .inl w3)), (h_t_tree, .inl (cI, 3, .inl a_t_tree)), (h_t_numbers, .inl (cJ, 6, .inr (.inl w4))), (h_t_rows, .inl (cI, 480, .inl w5)), (h_t_powers, .inl (cI, 8, .inl a_t_powers))] t.heap) (va_A [(h_t, .inr (8, [.int t_genus, .int t_marks, .ref h_t_powers, .int t_leaves, .int t_splits, .ref h_t_tree, .ref h_t_ahead, .ref h_t_behind, .ref h_t_before, .int t_done, .int t_undone, .ref h_t_rows, .ref h_t_met, .ref h_t_metSizes, .int t_metMany, .int t_treesSeen, .ref h_t_chosen, .ref h_t_tape, .int t_taped, .int t_place, .int t_isWrong, .int t_toldGenus, .int t_toldMarks, .ref h_t_toldPowers, .ref h_t_powerPlaces, .int t_isTree, .int t_toldLeaves, .int t_leavesPlace, .int t_toldSplits, .ref h_t_toldTree, .ref h_t_splitPlaces, .ref h_t_layers, .int t_isWhy, .ref h_t_paper, .int t_papered, .ref h_t_held, .ref h_t_numbers, .ref h_t_sizes, .ref h_t_heldLeaves, .ref h_t_items, .ref h_t_kept, .int t_isKept])), (h_t_held, .inl (cI, 6, .inl a_t_held)), (h_t_heldLeaves, .inl (cI, 6, .inl a_t_heldLeaves)), (h_t_sizes, .inl (cI, 6, .inl a_t_sizes)), (h_t_items, .inl (cI, 120, .inl a_t_items)), (h_t_tree, .inl (cI, 3, .inl a_t_tree)), (h_t_numbers, .inl (cJ, 6, .inr (.inl a_t_numbers))), (h_t_rows, .inl (cI, 480, .inl a_t_rows)), (h_t_powers, .inl (cI, 8, .inl a_t_powers))] sz)) 0 0 (va_A [(h_t, .inr (8, [.int t_genus, .int t_marks, .ref h_t_powers, .int t_leaves, .int t_splits, .ref h_t_tree, .ref h_t_ahead, .ref h_t_behind, .ref h_t_before, .int t_done, .int t_undone, .ref h_t_rows, .ref h_t_met, .ref h_t_metSizes, .int t_metMany, .int t_treesSeen, .ref h_t_chosen, .ref h_t_tape, .int t_taped, .int t_place, .int t_isWrong, .int t_toldGenus, .int t_toldMarks, .ref h_t_toldPowers, .ref h_t_powerPlaces, .int t_isTree, .int t_toldLeaves, .int t_leavesPlace, .int t_toldSplits, .ref h_t_toldTree, .ref h_t_splitPlaces, .ref h_t_layers, .int t_isWhy, .ref h_t_paper, .int t_papered, .ref h_t_held, .ref h_t_numbers, .ref h_t_sizes, .ref h_t_heldLeaves, .ref h_t_items, .ref h_t_kept, .int t_isKept])), (h_t_held, .inl (cI, 6, .inl a_t_held)), (h_t_heldLeaves, .inl (cI, 6, .inl a_t_heldLeaves)), (h_t_sizes, .inl (cI, 6, .inl a_t_sizes)), (h_t_items, .inl (cI, 120, .inl a_t_items)), (h_t_tree, .inl (cI, 3, .inl a_t_tree)), (h_t_numbers, .inl (cJ, 6, .inr (.inl a_t_numbers))), (h_t_rows, .inl (cI, 480, .inl a_t_rows)), (h_t_powers, .inl (cI, 8, .inl a_t_powers))] sz) := by
  refine Met.ofW (cc := cX9_hold) (maxL := 4) (ret := (some .int)) (by decide) rfl ?_
  intro p e s m args below meth c s₁ B hml hv
  obtain ⟨rfl, hsz, hP, hK, hD0⟩ := hv
  have hx := B.exec
  have hb := B.bytes
  have hr := B.returns
  have hts := atoms_spec (ws := wsX9_hold) B.pre
  have hta : ∀ w ∈ wA, w.before ([.ref h_t, .int p0, .int p1] : List Value).toArray s = true := hta_of hts
  have hown : s.vm.findClass RX9 = some m.cls := findClass_of_methodNamed B.named
  have hlocks := B.notSynchronized
  subst hsz
  have hD := hD0.self (sz := s.heap.size)
  generalize hAe : va_A [(h_t, .inr (8, [.int t_genus, .int t_marks, .ref h_t_powers, .int t_leaves, .int t_splits, .ref h_t_tree, .ref h_t_ahead, .ref h_t_behind, .ref h_t_before, .int t_done, .int t_undone, .ref h_t_rows, .ref h_t_met, .ref h_t_metSizes, .int t_metMany, .int t_treesSeen, .ref h_t_chosen, .ref h_t_tape, .int t_taped, .int t_place, .int t_isWrong, .int t_toldGenus, .int t_toldMarks, .ref h_t_toldPowers, .ref h_t_powerPlaces, .int t_isTree, .int t_toldLeaves, .int t_leavesPlace, .int t_toldSplits, .ref h_t_toldTree, .ref h_t_splitPlaces, .ref h_t_layers, .int t_isWhy, .ref h_t_paper, .int t_papered, .ref h_t_held, .ref h_t_numbers, .ref h_t_sizes, .ref h_t_heldLeaves, .ref h_t_items, .ref h_t_kept, .int t_isKept])), (h_t_held, .inl (cI, 6, .inl a_t_held)), (h_t_heldLeaves, .inl (cI, 6, .inl a_t_heldLeaves)), (h_t_sizes, .inl (cI, 6, .inl a_t_sizes)), (h_t_items, .inl (cI, 120, .inl a_t_items)), (h_t_tree, .inl (cI, 3, .inl a_t_tree)), (h_t_numbers, .inl (cJ, 6, .inr (.inl a_t_numbers))), (h_t_rows, .inl (cI, 480, .inl a_t_rows)), (h_t_powers, .inl (cI, 8, .inl a_t_powers))] s.heap.size = A at hD ⊢
  have hA : ∀ q : Nat, s.heap.size ≤ q → A q := fun q h => by rw [← hAe]; exact Or.inr h
  have hS : va_S A s.heap s.heap [] := va_S.rf
  have hl := lv_entry ([.ref h_t, .int p0, .int p1]) (n := 4) (Nat.le_of_ble_eq_true rfl)
  rw [lg_entry_eq]
  generalize (lg_sl ([.ref h_t, .int p0, .int p1]) ++ List.replicate (4 - (lg_sl ([.ref h_t, .int p0, .int p1])).length) Slot.unset).toArray = ls at hl ⊢
  have hl : lv_has ls 4 [(0, .ref h_t), (1, .int p0), (2, .int p1)] := hl
  have hinX9 : ∀ w ∈ wsX90, w ∈ wsX9_hold := hin_of in_X9
  have h := hF
  unfold F_X9_hold at h
  refine lv_iload_n hx hb dX9_hold_0 rfl (lv_at hl 1 rfl) ?_
  obtain ⟨x1, hx1, h⟩ := bd_e h
  try dsimp only at h
  refine k_SiU (n := 1) (As := [.int p0]) (rest := []) hx hb hml hown hts (c_X9_isHolder l G cI cJ cD cH s.heap.size p0 x1 hx1) gX9_hold_X9_isHolder rfl rfl rfl (by decide +kernel) ⟨by first | exact Nat.le_of_ble_eq_true rfl | (simp only [headSpec]; omega), by first | exact Nat.le_of_ble_eq_true rfl | (simp only [headSpec]; omega)⟩ hK hP hD hS hA [] (by decide) rfl rfl rfl hl.1 (Nat.le_of_ble_eq_true rfl) dX9_hold_1 ⟨Nat.zero_le _, Nat.zero_le _⟩ (fun hp1 H locs hP hS => ?_)
  refine lv_if_eq (tgt := 17) hx hb dX9_hold_4 (by decide) (fun c2 => ?_) (fun c2 => ?_)
  · have h := it_p h c2
    refine lv_iconst (v := (-1 : Int32)) hx hb dX9_hold_17 (by decide) ?_
    have h9 := Option.some.inj h
    have e9 : (-1 : Int32) = r0 := congrArg (fun z9 => z9.1) h9
    rw [← e9]
    have e9 : a_t_held = w0 := congrArg (fun z9 => z9.2.1) h9
    rw [← e9]
    have e9 : a_t_heldLeaves = w1 := congrArg (fun z9 => z9.2.2.1) h9
    rw [← e9]
    have e9 : a_t_sizes = w2 := congrArg (fun z9 => z9.2.2.2.1) h9
    rw [← e9]
    have e9 : a_t_items = w3 := congrArg (fun z9 => z9.2.2.2.2.1) h9
    rw [← e9]
    have e9 : a_t_numbers = w4 := congrArg (fun z9 => z9.2.2.2.2.2.1) h9
    rw [← e9]
    have e9 : a_t_rows = w5 := congrArg (fun z9 => z9.2.2.2.2.2.2) h9
    rw [← e9]
    exact k_iret hx hb hr hlocks hP hS rfl dX9_hold_18
  have h := it_n h c2
  refine lv_iload_n hx hb dX9_hold_7 rfl (lv_at hl 2 rfl) ?_
  refine lv_i2l (v := p1.toInt64) hx hb dX9_hold_8 (by first | rfl | decide) ?_
  refine lv_lconst (v := (0 : Int64)) hx hb dX9_hold_9 (by decide) ?_
  refine lv_lconst (v := (1 : Int64)) hx hb dX9_hold_10 (by decide) ?_
  obtain ⟨x3, hx3, h⟩ := bd_e h
  try dsimp only at h
  refine k_SiU (n := 3) (As := [.long p1.toInt64, .long (0 : Int64), .long (1 : Int64)]) (rest := []) hx hb hml hown hts (c_X9_in l G cI cJ cD cH H.size p1.toInt64 (0 : Int64) (1 : Int64) x3 hx3) gX9_hold_X9_in rfl rfl rfl (by decide +kernel) ⟨by first | exact Nat.le_of_ble_eq_true rfl | (simp only [headSpec]; omega), by first | exact Nat.le_of_ble_eq_true rfl | (simp only [headSpec]; omega)⟩ hK hP hD hS hA [] (by decide) rfl rfl rfl hl.1 (Nat.le_of_ble_eq_true rfl) dX9_hold_11 ⟨Nat.zero_le _, Nat.zero_le _⟩ (fun hp3 H locs hP hS => ?_)
  refine lv_if_ne (tgt := 19) hx hb dX9_hold_14 (by decide) (fun c4 => ?_) (fun c4 => ?_)
  rotate_left
  · have h := it_p h c4
    refine lv_iconst (v := (-1 : Int32)) hx hb dX9_hold_17 (by decide) ?_
    have h9 := Option.some.inj h
    have e9 : (-1 : Int32) = r0 := congrArg (fun z9 => z9.1) h9
    rw [← e9]
    have e9 : a_t_held = w0 := congrArg (fun z9 => z9.2.1) h9
    rw [← e9]
    have e9 : a_t_heldLeaves = w1 := congrArg (fun z9 => z9.2.2.1) h9
    rw [← e9]
    have e9 : a_t_sizes = w2 := congrArg (fun z9 => z9.2.2.2.1) h9
    rw [← e9]
    have e9 : a_t_items = w3 := congrArg (fun z9 => z9.2.2.2.2.1) h9
    rw [← e9]
    have e9 : a_t_numbers = w4 := congrArg (fun z9 => z9.2.2.2.2.2.1) h9
    rw [← e9]
    have e9 : a_t_rows = w5 := congrArg (fun z9 => z9.2.2.2.2.2.2) h9
    rw [← e9]
    exact k_iret hx hb hr hlocks hP hS rfl dX9_hold_18
  have h := it_n h c4
  refine lv_aload_n hx hb dX9_hold_19 rfl (lv_at hl 0 rfl) ?_
  refine va_get (D := G) (ci := 8) (v := .ref h_t_held) (C := RX9) (T := TX9) (N := 42) hx hb hts hinX9 hown hK hP 0 rfl rfl 35 (by decide) (hta _ mw_626) (fun _ h9 => h9) rfl dX9_hold_20 ?_
  refine lv_iload_n hx hb dX9_hold_23 rfl (lv_at hl 1 rfl) ?_
  refine lv_iload_n hx hb dX9_hold_24 rfl (lv_at hl 2 rfl) ?_
  refine lv_iconst (v := (1 : Int32)) hx hb dX9_hold_25 (by decide) ?_
  refine lv_iadd hx hb dX9_hold_26 ?_
  obtain ⟨hn5, h⟩ := ck_e h
  refine va_iast hx hb hK hP hD hS 1 0 rfl rfl hn5 dX9_hold_27 (fun H locs hP hD hS => ?_)
  have hP : va_P G vwCl [(h_t, .inr (8, [.int t_genus, .int t_marks, .ref h_t_powers, .int t_leaves, .int t_splits, .ref h_t_tree, .ref h_t_ahead, .ref h_t_behind, .ref h_t_before, .int t_done, .int t_undone, .ref h_t_rows, .ref h_t_met, .ref h_t_metSizes, .int t_metMany, .int t_treesSeen, .ref h_t_chosen, .ref h_t_tape, .int t_taped, .int t_place, .int t_isWrong, .int t_toldGenus, .int t_toldMarks, .ref h_t_toldPowers, .ref h_t_powerPlaces, .int t_isTree, .int t_toldLeaves, .int t_leavesPlace, .int t_toldSplits, .ref h_t_toldTree, .ref h_t_splitPlaces, .ref h_t_layers, .int t_isWhy, .ref h_t_paper, .int t_papered, .ref h_t_held, .ref h_t_numbers, .ref h_t_sizes, .ref h_t_heldLeaves, .ref h_t_items, .ref h_t_kept, .int t_isKept])), (h_t_held, .inl (cI, 6, .inl (upd a_t_held p0.toNatClampNeg (p1 + (1 : Int32))))), (h_t_heldLeaves, .inl (cI, 6, .inl a_t_heldLeaves)), (h_t_sizes, .inl (cI, 6, .inl a_t_sizes)), (h_t_items, .inl (cI, 120, .inl a_t_items)), (h_t_tree, .inl (cI, 3, .inl a_t_tree)), (h_t_numbers, .inl (cJ, 6, .inr (.inl a_t_numbers))), (h_t_rows, .inl (cI, 480, .inl a_t_rows)), (h_t_powers, .inl (cI, 8, .inl a_t_powers))] H := hP
  have hD : va_D A [(h_t, .inr (8, [.int t_genus, .int t_marks, .ref h_t_powers, .int t_leaves, .int t_splits, .ref h_t_tree, .ref h_t_ahead, .ref h_t_behind, .ref h_t_before, .int t_done, .int t_undone, .ref h_t_rows, .ref h_t_met, .ref h_t_metSizes, .int t_metMany, .int t_treesSeen, .ref h_t_chosen, .ref h_t_tape, .int t_taped, .int t_place, .int t_isWrong, .int t_toldGenus, .int t_toldMarks, .ref h_t_toldPowers, .ref h_t_powerPlaces, .int t_isTree, .int t_toldLeaves, .int t_leavesPlace, .int t_toldSplits, .ref h_t_toldTree, .ref h_t_splitPlaces, .ref h_t_layers, .int t_isWhy, .ref h_t_paper, .int t_papered, .ref h_t_held, .ref h_t_numbers, .ref h_t_sizes, .ref h_t_heldLeaves, .ref h_t_items, .ref h_t_kept, .int t_isKept])), (h_t_held, .inl (cI, 6, .inl (upd a_t_held p0.toNatClampNeg (p1 + (1 : Int32))))), (h_t_heldLeaves, .inl (cI, 6, .inl a_t_heldLeaves)), (h_t_sizes, .inl (cI, 6, .inl a_t_sizes)), (h_t_items, .inl (cI, 120, .inl a_t_items)), (h_t_tree, .inl (cI, 3, .inl a_t_tree)), (h_t_numbers, .inl (cJ, 6, .inr (.inl a_t_numbers))), (h_t_rows, .inl (cI, 480, .inl a_t_rows)), (h_t_powers, .inl (cI, 8, .inl a_t_powers))] := hD
  refine lv_iload_n hx hb dX9_hold_28 rfl (lv_at hl 2 rfl) ?_
  refine lv_if_ne (tgt := 88) hx hb dX9_hold_29 (by decide) (fun c6 => ?_) (fun c6 => ?_)
  · have h := it_n h c6
    refine lv_aload_n hx hb dX9_hold_88 rfl (lv_at hl 0 rfl) ?_
    refine va_get (D := G) (ci := 8) (v := .ref h_t_heldLeaves) (C := RX9) (T := TX9) (N := 42) hx hb hts hinX9 hown hK hP 0 rfl rfl 38 (by decide) (hta _ mw_629) (fun _ h9 => h9) rfl dX9_hold_89 ?_
    refine lv_iload_n hx hb dX9_hold_92 rfl (lv_at hl 1 rfl) ?_
    refine lv_aload_n hx hb dX9_hold_93 rfl (lv_at hl 0 rfl) ?_
    refine va_get (D := G) (ci := 8) (v := .int t_leaves) (C := RX9) (T := TX9) (N := 42) hx hb hts hinX9 hown hK hP 0 rfl rfl 3 (by decide) (hta _ mw_609) (fun _ h9 => h9) rfl dX9_hold_94 ?_
    obtain ⟨hn7, h⟩ := ck_e h
    refine va_iast hx hb hK hP hD hS 2 0 rfl rfl hn7 dX9_hold_97 (fun H locs hP hD hS => ?_)
    have hP : va_P G vwCl [(h_t, .inr (8, [.int t_genus, .int t_marks, .ref h_t_powers, .int t_leaves, .int t_splits, .ref h_t_tree, .ref h_t_ahead, .ref h_t_behind, .ref h_t_before, .int t_done, .int t_undone, .ref h_t_rows, .ref h_t_met, .ref h_t_metSizes, .int t_metMany, .int t_treesSeen, .ref h_t_chosen, .ref h_t_tape, .int t_taped, .int t_place, .int t_isWrong, .int t_toldGenus, .int t_toldMarks, .ref h_t_toldPowers, .ref h_t_powerPlaces, .int t_isTree, .int t_toldLeaves, .int t_leavesPlace, .int t_toldSplits, .ref h_t_toldTree, .ref h_t_splitPlaces, .ref h_t_layers, .int t_isWhy, .ref h_t_paper, .int t_papered, .ref h_t_held, .ref h_t_numbers, .ref h_t_sizes, .ref h_t_heldLeaves, .ref h_t_items, .ref h_t_kept, .int t_isKept])), (h_t_held, .inl (cI, 6, .inl (upd a_t_held p0.toNatClampNeg (p1 + (1 : Int32))))), (h_t_heldLeaves, .inl (cI, 6, .inl (upd a_t_heldLeaves p0.toNatClampNeg t_leaves))), (h_t_sizes, .inl (cI, 6, .inl a_t_sizes)), (h_t_items, .inl (cI, 120, .inl a_t_items)), (h_t_tree, .inl (cI, 3, .inl a_t_tree)), (h_t_numbers, .inl (cJ, 6, .inr (.inl a_t_numbers))), (h_t_rows, .inl (cI, 480, .inl a_t_rows)), (h_t_powers, .inl (cI, 8, .inl a_t_powers))] H := hP
    have hD : va_D A [(h_t, .inr (8, [.int t_genus, .int t_marks, .ref h_t_powers, .int t_leaves, .int t_splits, .ref h_t_tree, .ref h_t_ahead, .ref h_t_behind, .ref h_t_before, .int t_done, .int t_undone, .ref h_t_rows, .ref h_t_met, .ref h_t_metSizes, .int t_metMany, .int t_treesSeen, .ref h_t_chosen, .ref h_t_tape, .int t_taped, .int t_place, .int t_isWrong, .int t_toldGenus, .int t_toldMarks, .ref h_t_toldPowers, .ref h_t_powerPlaces, .int t_isTree, .int t_toldLeaves, .int t_leavesPlace, .int t_toldSplits, .ref h_t_toldTree, .ref h_t_splitPlaces, .ref h_t_layers, .int t_isWhy, .ref h_t_paper, .int t_papered, .ref h_t_held, .ref h_t_numbers, .ref h_t_sizes, .ref h_t_heldLeaves, .ref h_t_items, .ref h_t_kept, .int t_isKept])), (h_t_held, .inl (cI, 6, .inl (upd a_t_held p0.toNatClampNeg (p1 + (1 : Int32))))), (h_t_heldLeaves, .inl (cI, 6, .inl (upd a_t_heldLeaves p0.toNatClampNeg t_leaves))), (h_t_sizes, .inl (cI, 6, .inl a_t_sizes)), (h_t_items, .inl (cI, 120, .inl a_t_items)), (h_t_tree, .inl (cI, 3, .inl a_t_tree)), (h_t_numbers, .inl (cJ, 6, .inr (.inl a_t_numbers))), (h_t_rows, .inl (cI, 480, .inl a_t_rows)), (h_t_powers, .inl (cI, 8, .inl a_t_powers))] := hD
    refine lv_aload_n hx hb dX9_hold_98 rfl (lv_at hl 0 rfl) ?_
    refine va_get (D := G) (ci := 8) (v := .ref h_t_sizes) (C := RX9) (T := TX9) (N := 42) hx hb hts hinX9 hown hK hP 0 rfl rfl 37 (by decide) (hta _ mw_628) (fun _ h9 => h9) rfl dX9_hold_99 ?_
    refine lv_iload_n hx hb dX9_hold_102 rfl (lv_at hl 1 rfl) ?_
    refine lv_aload_n hx hb dX9_hold_103 rfl (lv_at hl 0 rfl) ?_
    refine va_get (D := G) (ci := 8) (v := .int t_splits) (C := RX9) (T := TX9) (N := 42) hx hb hts hinX9 hown hK hP 0 rfl rfl 4 (by decide) (hta _ mw_642) (fun _ h9 => h9) rfl dX9_hold_104 ?_
    obtain ⟨hn8, h⟩ := ck_e h
    refine va_iast hx hb hK hP hD hS 3 0 rfl rfl hn8 dX9_hold_107 (fun H locs hP hD hS => ?_)
    have hP : va_P G vwCl [(h_t, .inr (8, [.int t_genus, .int t_marks, .ref h_t_powers, .int t_leaves, .int t_splits, .ref h_t_tree, .ref h_t_ahead, .ref h_t_behind, .ref h_t_before, .int t_done, .int t_undone, .ref h_t_rows, .ref h_t_met, .ref h_t_metSizes, .int t_metMany, .int t_treesSeen, .ref h_t_chosen, .ref h_t_tape, .int t_taped, .int t_place, .int t_isWrong, .int t_toldGenus, .int t_toldMarks, .ref h_t_toldPowers, .ref h_t_powerPlaces, .int t_isTree, .int t_toldLeaves, .int t_leavesPlace, .int t_toldSplits, .ref h_t_toldTree, .ref h_t_splitPlaces, .ref h_t_layers, .int t_isWhy, .ref h_t_paper, .int t_papered, .ref h_t_held, .ref h_t_numbers, .ref h_t_sizes, .ref h_t_heldLeaves, .ref h_t_items, .ref h_t_kept, .int t_isKept])), (h_t_held, .inl (cI, 6, .inl (upd a_t_held p0.toNatClampNeg (p1 + (1 : Int32))))), (h_t_heldLeaves, .inl (cI, 6, .inl (upd a_t_heldLeaves p0.toNatClampNeg t_leaves))), (h_t_sizes, .inl (cI, 6, .inl (upd a_t_sizes p0.toNatClampNeg t_splits))), (h_t_items, .inl (cI, 120, .inl a_t_items)), (h_t_tree, .inl (cI, 3, .inl a_t_tree)), (h_t_numbers, .inl (cJ, 6, .inr (.inl a_t_numbers))), (h_t_rows, .inl (cI, 480, .inl a_t_rows)), (h_t_powers, .inl (cI, 8, .inl a_t_powers))] H := hP
    have hD : va_D A [(h_t, .inr (8, [.int t_genus, .int t_marks, .ref h_t_powers, .int t_leaves, .int t_splits, .ref h_t_tree, .ref h_t_ahead, .ref h_t_behind, .ref h_t_before, .int t_done, .int t_undone, .ref h_t_rows, .ref h_t_met, .ref h_t_metSizes, .int t_metMany, .int t_treesSeen, .ref h_t_chosen, .ref h_t_tape, .int t_taped, .int t_place, .int t_isWrong, .int t_toldGenus, .int t_toldMarks, .ref h_t_toldPowers, .ref h_t_powerPlaces, .int t_isTree, .int t_toldLeaves, .int t_leavesPlace, .int t_toldSplits, .ref h_t_toldTree, .ref h_t_splitPlaces, .ref h_t_layers, .int t_isWhy, .ref h_t_paper, .int t_papered, .ref h_t_held, .ref h_t_numbers, .ref h_t_sizes, .ref h_t_heldLeaves, .ref h_t_items, .ref h_t_kept, .int t_isKept])), (h_t_held, .inl (cI, 6, .inl (upd a_t_held p0.toNatClampNeg (p1 + (1 : Int32))))), (h_t_heldLeaves, .inl (cI, 6, .inl (upd a_t_heldLeaves p0.toNatClampNeg t_leaves))), (h_t_sizes, .inl (cI, 6, .inl (upd a_t_sizes p0.toNatClampNeg t_splits))), (h_t_items, .inl (cI, 120, .inl a_t_items)), (h_t_tree, .inl (cI, 3, .inl a_t_tree)), (h_t_numbers, .inl (cJ, 6, .inr (.inl a_t_numbers))), (h_t_rows, .inl (cI, 480, .inl a_t_rows)), (h_t_powers, .inl (cI, 8, .inl a_t_powers))] := hD
    refine lv_iconst (v := (0 : Int32)) hx hb dX9_hold_108 (by decide) ?_
    refine lv_istore_n (lv' := [(3, .int (0 : Int32)), (0, .ref h_t), (1, .int p0), (2, .int p1)]) hx hb dX9_hold_109 rfl hl (by decide) rfl (fun ls hl => ?_)
    have hL110 : ∀ (n110 : Nat) (vL110_0 : Nat → Int32) (vL110_1 : Int32) (H : Heap) (locs : List Loc) (ls : Array Slot), va_P G vwCl [(h_t, .inr (8, [.int t_genus, .int t_marks, .ref h_t_powers, .int t_leaves, .int t_splits, .ref h_t_tree, .ref h_t_ahead, .ref h_t_behind, .ref h_t_before, .int t_done, .int t_undone, .ref h_t_rows, .ref h_t_met, .ref h_t_metSizes, .int t_metMany, .int t_treesSeen, .ref h_t_chosen, .ref h_t_tape, .int t_taped, .int t_place, .int t_isWrong, .int t_toldGenus, .int t_toldMarks, .ref h_t_toldPowers, .ref h_t_powerPlaces, .int t_isTree, .int t_toldLeaves, .int t_leavesPlace, .int t_toldSplits, .ref h_t_toldTree, .ref h_t_splitPlaces, .ref h_t_layers, .int t_isWhy, .ref h_t_paper, .int t_papered, .ref h_t_held, .ref h_t_numbers, .ref h_t_sizes, .ref h_t_heldLeaves, .ref h_t_items, .ref h_t_kept, .int t_isKept])), (h_t_held, .inl (cI, 6, .inl (upd a_t_held p0.toNatClampNeg (p1 + (1 : Int32))))), (h_t_heldLeaves, .inl (cI, 6, .inl (upd a_t_heldLeaves p0.toNatClampNeg t_leaves))), (h_t_sizes, .inl (cI, 6, .inl (upd a_t_sizes p0.toNatClampNeg t_splits))), (h_t_items, .inl (cI, 120, .inl vL110_0)), (h_t_tree, .inl (cI, 3, .inl a_t_tree)), (h_t_numbers, .inl (cJ, 6, .inr (.inl a_t_numbers))), (h_t_rows, .inl (cI, 480, .inl a_t_rows)), (h_t_powers, .inl (cI, 8, .inl a_t_powers))] H → va_D A [(h_t, .inr (8, [.int t_genus, .int t_marks, .ref h_t_powers, .int t_leaves, .int t_splits, .ref h_t_tree, .ref h_t_ahead, .ref h_t_behind, .ref h_t_before, .int t_done, .int t_undone, .ref h_t_rows, .ref h_t_met, .ref h_t_metSizes, .int t_metMany, .int t_treesSeen, .ref h_t_chosen, .ref h_t_tape, .int t_taped, .int t_place, .int t_isWrong, .int t_toldGenus, .int t_toldMarks, .ref h_t_toldPowers, .ref h_t_powerPlaces, .int t_isTree, .int t_toldLeaves, .int t_leavesPlace, .int t_toldSplits, .ref h_t_toldTree, .ref h_t_splitPlaces, .ref h_t_layers, .int t_isWhy, .ref h_t_paper, .int t_papered, .ref h_t_held, .ref h_t_numbers, .ref h_t_sizes, .ref h_t_heldLeaves, .ref h_t_items, .ref h_t_kept, .int t_isKept])), (h_t_held, .inl (cI, 6, .inl (upd a_t_held p0.toNatClampNeg (p1 + (1 : Int32))))), (h_t_heldLeaves, .inl (cI, 6, .inl (upd a_t_heldLeaves p0.toNatClampNeg t_leaves))), (h_t_sizes, .inl (cI, 6, .inl (upd a_t_sizes p0.toNatClampNeg t_splits))), (h_t_items, .inl (cI, 120, .inl vL110_0)), (h_t_tree, .inl (cI, 3, .inl a_t_tree)), (h_t_numbers, .inl (cJ, 6, .inr (.inl a_t_numbers))), (h_t_rows, .inl (cI, 480, .inl a_t_rows)), (h_t_powers, .inl (cI, 8, .inl a_t_powers))] → va_S A s.heap H locs → lv_has ls 4 [(0, .ref h_t), (1, .int p0), (3, .int vL110_1)] → wq2 (B_X9_hold_110 t_splits a_t_tree p0 (K_X9_hold_110_141 t_leaves t_splits a_t_held a_t_heldLeaves a_t_sizes a_t_numbers a_t_rows p0 p1)) n110 vL110_0 vL110_1 = some (r0, w0, w1, w2, w3, w4, w5) → W p l e (headSpec wsX9_hold ({ frames := 22, cells := 0, slots := 0, locals := 622 })).room s m ([.ref h_t, .int p0, .int p1] : List Value).toArray below meth c H locs 0 0 (MQ below (va_Qi (fun r (_ : Unit) => r = r0 ∧ True) (fun _ t => va_P G vwCl [(h_t, .inr (8, [.int t_genus, .int t_marks, .ref h_t_powers, .int t_leaves, .int t_splits, .ref h_t_tree, .ref h_t_ahead, .ref h_t_behind, .ref h_t_before, .int t_done, .int t_undone, .ref h_t_rows, .ref h_t_met, .ref h_t_metSizes, .int t_metMany, .int t_treesSeen, .ref h_t_chosen, .ref h_t_tape, .int t_taped, .int t_place, .int t_isWrong, .int t_toldGenus, .int t_toldMarks, .ref h_t_toldPowers, .ref h_t_powerPlaces, .int t_isTree, .int t_toldLeaves, .int t_leavesPlace, .int t_toldSplits, .ref h_t_toldTree, .ref h_t_splitPlaces, .ref h_t_layers, .int t_isWhy, .ref h_t_paper, .int t_papered, .ref h_t_held, .ref h_t_numbers, .ref h_t_sizes, .ref h_t_heldLeaves, .ref h_t_items, .ref h_t_kept, .int t_isKept])), (h_t_held, .inl (cI, 6, .inl w0)), (h_t_heldLeaves, .inl (cI, 6, .inl w1)), (h_t_sizes, .inl (cI, 6, .inl w2)), (h_t_items, .inl (cI, 120, .inl w3)), (h_t_tree, .inl (cI, 3, .inl a_t_tree)), (h_t_numbers, .inl (cJ, 6, .inr (.inl w4))), (h_t_rows, .inl (cI, 480, .inl w5)), (h_t_powers, .inl (cI, 8, .inl a_t_powers))] t.heap) A) ([.ref h_t, .int p0, .int p1] : List Value).toArray s 0 0 A) (F0 m 110 ls []) := by
      intro n110
      induction n110 with
      | zero => intro vL110_0 vL110_1 H locs ls hP hD hS hl h; exact wq2_0 h
      | succ n110 ih110 =>
        intro vL110_0 vL110_1 H locs ls hP hD hS hl h
        have h := wq2_s h
        unfold B_X9_hold_110 at h
        refine lv_iload_n hx hb dX9_hold_110 rfl (lv_at hl 2 rfl) ?_
        refine lv_aload_n hx hb dX9_hold_111 rfl (lv_at hl 0 rfl) ?_
        refine va_get (D := G) (ci := 8) (v := .int t_splits) (C := RX9) (T := TX9) (N := 42) hx hb hts hinX9 hown hK hP 0 rfl rfl 4 (by decide) (hta _ mw_642) (fun _ h9 => h9) rfl dX9_hold_112 ?_
        refine lv_icmp_ge (tgt := 141) hx hb dX9_hold_115 (by decide) (fun c9 => ?_) (fun c9 => ?_)
        · have h := it_p h c9
          exact tK_X9_hold_110_141 hx hb hr hml hts hown hlocks hK hA vL110_0 _ _ _ hP hD hS (lv_sub hl [0] rfl) h
        have h := it_n h c9
        refine lv_aload_n hx hb dX9_hold_118 rfl (lv_at hl 0 rfl) ?_
        refine va_get (D := G) (ci := 8) (v := .ref h_t_items) (C := RX9) (T := TX9) (N := 42) hx hb hts hinX9 hown hK hP 0 rfl rfl 39 (by decide) (hta _ mw_630) (fun _ h9 => h9) rfl dX9_hold_119 ?_
        refine lv_bipush (v := (20 : Int32)) hx hb dX9_hold_122 (by decide) ?_
        refine lv_iload_n hx hb dX9_hold_124 rfl (lv_at hl 1 rfl) ?_
        refine lv_imul hx hb dX9_hold_125 ?_
        refine lv_iload_n hx hb dX9_hold_126 rfl (lv_at hl 2 rfl) ?_
        refine lv_iadd hx hb dX9_hold_127 ?_
        refine lv_aload_n hx hb dX9_hold_128 rfl (lv_at hl 0 rfl) ?_
        refine va_get (D := G) (ci := 8) (v := .ref h_t_tree) (C := RX9) (T := TX9) (N := 42) hx hb hts hinX9 hown hK hP 0 rfl rfl 5 (by decide) (hta _ mw_610) (fun _ h9 => h9) rfl dX9_hold_129 ?_
        refine lv_iload_n hx hb dX9_hold_132 rfl (lv_at hl 2 rfl) ?_
        obtain ⟨hn10, h⟩ := ck_e h
        refine va_iald hx hb hK hP 5 0 rfl rfl hn10 dX9_hold_133 ?_
        obtain ⟨hn11, h⟩ := ck_e h
        refine va_iast hx hb hK hP hD hS 4 0 rfl rfl hn11 dX9_hold_134 (fun H locs hP hD hS => ?_)
        have hP : va_P G vwCl [(h_t, .inr (8, [.int t_genus, .int t_marks, .ref h_t_powers, .int t_leaves, .int t_splits, .ref h_t_tree, .ref h_t_ahead, .ref h_t_behind, .ref h_t_before, .int t_done, .int t_undone, .ref h_t_rows, .ref h_t_met, .ref h_t_metSizes, .int t_metMany, .int t_treesSeen, .ref h_t_chosen, .ref h_t_tape, .int t_taped, .int t_place, .int t_isWrong, .int t_toldGenus, .int t_toldMarks, .ref h_t_toldPowers, .ref h_t_powerPlaces, .int t_isTree, .int t_toldLeaves, .int t_leavesPlace, .int t_toldSplits, .ref h_t_toldTree, .ref h_t_splitPlaces, .ref h_t_layers, .int t_isWhy, .ref h_t_paper, .int t_papered, .ref h_t_held, .ref h_t_numbers, .ref h_t_sizes, .ref h_t_heldLeaves, .ref h_t_items, .ref h_t_kept, .int t_isKept])), (h_t_held, .inl (cI, 6, .inl (upd a_t_held p0.toNatClampNeg (p1 + (1 : Int32))))), (h_t_heldLeaves, .inl (cI, 6, .inl (upd a_t_heldLeaves p0.toNatClampNeg t_leaves))), (h_t_sizes, .inl (cI, 6, .inl (upd a_t_sizes p0.toNatClampNeg t_splits))), (h_t_items, .inl (cI, 120, .inl (upd vL110_0 (((20 : Int32) * p0) + vL110_1).toNatClampNeg (a_t_tree vL110_1.toNatClampNeg)))), (h_t_tree, .inl (cI, 3, .inl a_t_tree)), (h_t_numbers, .inl (cJ, 6, .inr (.inl a_t_numbers))), (h_t_rows, .inl (cI, 480, .inl a_t_rows)), (h_t_powers, .inl (cI, 8, .inl a_t_powers))] H := hP
        have hD : va_D A [(h_t, .inr (8, [.int t_genus, .int t_marks, .ref h_t_powers, .int t_leaves, .int t_splits, .ref h_t_tree, .ref h_t_ahead, .ref h_t_behind, .ref h_t_before, .int t_done, .int t_undone, .ref h_t_rows, .ref h_t_met, .ref h_t_metSizes, .int t_metMany, .int t_treesSeen, .ref h_t_chosen, .ref h_t_tape, .int t_taped, .int t_place, .int t_isWrong, .int t_toldGenus, .int t_toldMarks, .ref h_t_toldPowers, .ref h_t_powerPlaces, .int t_isTree, .int t_toldLeaves, .int t_leavesPlace, .int t_toldSplits, .ref h_t_toldTree, .ref h_t_splitPlaces, .ref h_t_layers, .int t_isWhy, .ref h_t_paper, .int t_papered, .ref h_t_held, .ref h_t_numbers, .ref h_t_sizes, .ref h_t_heldLeaves, .ref h_t_items, .ref h_t_kept, .int t_isKept])), (h_t_held, .inl (cI, 6, .inl (upd a_t_held p0.toNatClampNeg (p1 + (1 : Int32))))), (h_t_heldLeaves, .inl (cI, 6, .inl (upd a_t_heldLeaves p0.toNatClampNeg t_leaves))), (h_t_sizes, .inl (cI, 6, .inl (upd a_t_sizes p0.toNatClampNeg t_splits))), (h_t_items, .inl (cI, 120, .inl (upd vL110_0 (((20 : Int32) * p0) + vL110_1).toNatClampNeg (a_t_tree vL110_1.toNatClampNeg)))), (h_t_tree, .inl (cI, 3, .inl a_t_tree)), (h_t_numbers, .inl (cJ, 6, .inr (.inl a_t_numbers))), (h_t_rows, .inl (cI, 480, .inl a_t_rows)), (h_t_powers, .inl (cI, 8, .inl a_t_powers))] := hD
        refine lv_iinc (v := (vL110_1 + (1 : Int32))) (lv' := [(3, .int (vL110_1 + (1 : Int32))), (0, .ref h_t), (1, .int p0)]) hx hb dX9_hold_135 hl (k := 2) rfl (by first | rfl | decide) (by decide) rfl (fun ls hl => ?_)
        refine lv_goto (tgt := 110) hx hb dX9_hold_138 (by decide) ?_
        exact ih110 (upd vL110_0 (((20 : Int32) * p0) + vL110_1).toNatClampNeg (a_t_tree vL110_1.toNatClampNeg)) (vL110_1 + (1 : Int32)) _ _ _ hP hD hS (lv_sub hl [1, 2, 0] rfl) h
    exact hL110 FU a_t_items (0 : Int32) _ _ _ hP hD hS (lv_sub hl [1, 2, 0] rfl) h
  have h := it_p h c6
  refine lv_aload_n hx hb dX9_hold_32 rfl (lv_at hl 0 rfl) ?_
  refine va_get (D := G) (ci := 8) (v := .ref h_t_numbers) (C := RX9) (T := TX9) (N := 42) hx hb hts hinX9 hown hK hP 0 rfl rfl 36 (by decide) (hta _ mw_627) (fun _ h9 => h9) rfl dX9_hold_33 ?_
  refine lv_iload_n hx hb dX9_hold_36 rfl (lv_at hl 1 rfl) ?_
  refine lv_aload_n hx hb dX9_hold_37 rfl (lv_at hl 0 rfl) ?_
  refine lv_iconst (v := (0 : Int32)) hx hb dX9_hold_38 (by decide) ?_
  obtain ⟨x12, hx12, h⟩ := bd_e h
  try dsimp only at h
  refine k_VlM (n := 1) (As := [.int (0 : Int32)]) (rest := [.int p0, .ref h_t_numbers]) hx hb hml hown hts (c_X9_number l G cI cJ cD cH H.size h_t h_t_rows h_t_powers h_t_tree h_t_ahead h_t_behind h_t_before h_t_met h_t_metSizes h_t_chosen h_t_tape h_t_toldPowers h_t_powerPlaces h_t_toldTree h_t_splitPlaces h_t_layers h_t_paper h_t_held h_t_numbers h_t_sizes h_t_heldLeaves h_t_items h_t_kept t_genus t_marks t_leaves t_splits t_done t_undone t_metMany t_treesSeen t_taped t_place t_isWrong t_toldGenus t_toldMarks t_isTree t_toldLeaves t_leavesPlace t_toldSplits t_isWhy t_papered t_isKept a_t_rows a_t_powers (0 : Int32) (x12.1) (x12.2) hx12) gX9_hold_X9_number rfl rfl rfl (by decide +kernel) ⟨by first | exact Nat.le_of_ble_eq_true rfl | (simp only [headSpec]; omega), by first | exact Nat.le_of_ble_eq_true rfl | (simp only [headSpec]; omega)⟩ hK hP hD hS hA [0, 7, 8] (by decide) rfl rfl (ci := 8) rfl rfl rfl rfl rfl hl.1 (Nat.le_of_ble_eq_true rfl) dX9_hold_39 ⟨Nat.zero_le _, Nat.zero_le _⟩ [(h_t, .inr (8, [.int t_genus, .int t_marks, .ref h_t_powers, .int t_leaves, .int t_splits, .ref h_t_tree, .ref h_t_ahead, .ref h_t_behind, .ref h_t_before, .int t_done, .int t_undone, .ref h_t_rows, .ref h_t_met, .ref h_t_metSizes, .int t_metMany, .int t_treesSeen, .ref h_t_chosen, .ref h_t_tape, .int t_taped, .int t_place, .int t_isWrong, .int t_toldGenus, .int t_toldMarks, .ref h_t_toldPowers, .ref h_t_powerPlaces, .int t_isTree, .int t_toldLeaves, .int t_leavesPlace, .int t_toldSplits, .ref h_t_toldTree, .ref h_t_splitPlaces, .ref h_t_layers, .int t_isWhy, .ref h_t_paper, .int t_papered, .ref h_t_held, .ref h_t_numbers, .ref h_t_sizes, .ref h_t_heldLeaves, .ref h_t_items, .ref h_t_kept, .int t_isKept])), (h_t_held, .inl (cI, 6, .inl (upd a_t_held p0.toNatClampNeg (p1 + (1 : Int32))))), (h_t_heldLeaves, .inl (cI, 6, .inl a_t_heldLeaves)), (h_t_sizes, .inl (cI, 6, .inl a_t_sizes)), (h_t_items, .inl (cI, 120, .inl a_t_items)), (h_t_tree, .inl (cI, 3, .inl a_t_tree)), (h_t_numbers, .inl (cJ, 6, .inr (.inl a_t_numbers))), (h_t_rows, .inl (cI, 480, .inl (x12.2))), (h_t_powers, .inl (cI, 8, .inl a_t_powers))] [1, 0, 0, 0, 0, 0, 0, 2, 3] 3 (by decide +kernel) rfl rfl rfl (fun hp12 H locs hP hD hS => ?_)
  refine lv_ldc2 (v := (1000003 : Int64)) hx hb hown (hta _ mw_866) dX9_hold_42 ?_
  refine lv_lrem hx hb dX9_hold_45 (by decide) ?_
  obtain ⟨hn13, h⟩ := ck_e h
  refine va_last hx hb hK hP hD hS 6 1 rfl rfl hn13 dX9_hold_46 (fun H locs hP hD hS => ?_)
  have hP : va_P G vwCl [(h_t, .inr (8, [.int t_genus, .int t_marks, .ref h_t_powers, .int t_leaves, .int t_splits, .ref h_t_tree, .ref h_t_ahead, .ref h_t_behind, .ref h_t_before, .int t_done, .int t_undone, .ref h_t_rows, .ref h_t_met, .ref h_t_metSizes, .int t_metMany, .int t_treesSeen, .ref h_t_chosen, .ref h_t_tape, .int t_taped, .int t_place, .int t_isWrong, .int t_toldGenus, .int t_toldMarks, .ref h_t_toldPowers, .ref h_t_powerPlaces, .int t_isTree, .int t_toldLeaves, .int t_leavesPlace, .int t_toldSplits, .ref h_t_toldTree, .ref h_t_splitPlaces, .ref h_t_layers, .int t_isWhy, .ref h_t_paper, .int t_papered, .ref h_t_held, .ref h_t_numbers, .ref h_t_sizes, .ref h_t_heldLeaves, .ref h_t_items, .ref h_t_kept, .int t_isKept])), (h_t_held, .inl (cI, 6, .inl (upd a_t_held p0.toNatClampNeg (p1 + (1 : Int32))))), (h_t_heldLeaves, .inl (cI, 6, .inl a_t_heldLeaves)), (h_t_sizes, .inl (cI, 6, .inl a_t_sizes)), (h_t_items, .inl (cI, 120, .inl a_t_items)), (h_t_tree, .inl (cI, 3, .inl a_t_tree)), (h_t_numbers, .inl (cJ, 6, .inr (.inl (vp_updL a_t_numbers p0.toNatClampNeg ((x12.1) - (x12.1) / (1000003 : Int64) * (1000003 : Int64)))))), (h_t_rows, .inl (cI, 480, .inl (x12.2))), (h_t_powers, .inl (cI, 8, .inl a_t_powers))] H := hP
  have hD : va_D A [(h_t, .inr (8, [.int t_genus, .int t_marks, .ref h_t_powers, .int t_leaves, .int t_splits, .ref h_t_tree, .ref h_t_ahead, .ref h_t_behind, .ref h_t_before, .int t_done, .int t_undone, .ref h_t_rows, .ref h_t_met, .ref h_t_metSizes, .int t_metMany, .int t_treesSeen, .ref h_t_chosen, .ref h_t_tape, .int t_taped, .int t_place, .int t_isWrong, .int t_toldGenus, .int t_toldMarks, .ref h_t_toldPowers, .ref h_t_powerPlaces, .int t_isTree, .int t_toldLeaves, .int t_leavesPlace, .int t_toldSplits, .ref h_t_toldTree, .ref h_t_splitPlaces, .ref h_t_layers, .int t_isWhy, .ref h_t_paper, .int t_papered, .ref h_t_held, .ref h_t_numbers, .ref h_t_sizes, .ref h_t_heldLeaves, .ref h_t_items, .ref h_t_kept, .int t_isKept])), (h_t_held, .inl (cI, 6, .inl (upd a_t_held p0.toNatClampNeg (p1 + (1 : Int32))))), (h_t_heldLeaves, .inl (cI, 6, .inl a_t_heldLeaves)), (h_t_sizes, .inl (cI, 6, .inl a_t_sizes)), (h_t_items, .inl (cI, 120, .inl a_t_items)), (h_t_tree, .inl (cI, 3, .inl a_t_tree)), (h_t_numbers, .inl (cJ, 6, .inr (.inl (vp_updL a_t_numbers p0.toNatClampNeg ((x12.1) - (x12.1) / (1000003 : Int64) * (1000003 : Int64)))))), (h_t_rows, .inl (cI, 480, .inl (x12.2))), (h_t_powers, .inl (cI, 8, .inl a_t_powers))] := hD
  refine lv_aload_n hx hb dX9_hold_47 rfl (lv_at hl 0 rfl) ?_
  refine va_get (D := G) (ci := 8) (v := .ref h_t_numbers) (C := RX9) (T := TX9) (N := 42) hx hb hts hinX9 hown hK hP 0 rfl rfl 36 (by decide) (hta _ mw_627) (fun _ h9 => h9) rfl dX9_hold_48 ?_
  refine lv_iload_n hx hb dX9_hold_51 rfl (lv_at hl 1 rfl) ?_
  refine lv_aload_n hx hb dX9_hold_52 rfl (lv_at hl 0 rfl) ?_
  refine va_get (D := G) (ci := 8) (v := .ref h_t_numbers) (C := RX9) (T := TX9) (N := 42) hx hb hts hinX9 hown hK hP 0 rfl rfl 36 (by decide) (hta _ mw_627) (fun _ h9 => h9) rfl dX9_hold_53 ?_
  refine lv_iload_n hx hb dX9_hold_56 rfl (lv_at hl 1 rfl) ?_
  obtain ⟨hn14, h⟩ := ck_e h
  refine va_lald hx hb hK hP 6 1 rfl rfl hn14 dX9_hold_57 ?_
  refine lv_lconst (v := (0 : Int64)) hx hb dX9_hold_58 (by decide) ?_
  refine W.lcmp hx hb dX9_hold_59 ?_
  refine lv_if_ge (tgt := 76) hx hb dX9_hold_60 (by decide) (fun c15 => ?_) (fun c15 => ?_)
  · have h := it_p h c15
    refine lv_aload_n hx hb dX9_hold_76 rfl (lv_at hl 0 rfl) ?_
    refine va_get (D := G) (ci := 8) (v := .ref h_t_numbers) (C := RX9) (T := TX9) (N := 42) hx hb hts hinX9 hown hK hP 0 rfl rfl 36 (by decide) (hta _ mw_627) (fun _ h9 => h9) rfl dX9_hold_77 ?_
    refine lv_iload_n hx hb dX9_hold_80 rfl (lv_at hl 1 rfl) ?_
    obtain ⟨hn16, h⟩ := ck_e h
    refine va_lald hx hb hK hP 6 1 rfl rfl hn16 dX9_hold_81 ?_
    obtain ⟨hn17, h⟩ := ck_e h
    refine va_last hx hb hK hP hD hS 6 1 rfl rfl hn17 dX9_hold_82 (fun H locs hP hD hS => ?_)
    have hP : va_P G vwCl [(h_t, .inr (8, [.int t_genus, .int t_marks, .ref h_t_powers, .int t_leaves, .int t_splits, .ref h_t_tree, .ref h_t_ahead, .ref h_t_behind, .ref h_t_before, .int t_done, .int t_undone, .ref h_t_rows, .ref h_t_met, .ref h_t_metSizes, .int t_metMany, .int t_treesSeen, .ref h_t_chosen, .ref h_t_tape, .int t_taped, .int t_place, .int t_isWrong, .int t_toldGenus, .int t_toldMarks, .ref h_t_toldPowers, .ref h_t_powerPlaces, .int t_isTree, .int t_toldLeaves, .int t_leavesPlace, .int t_toldSplits, .ref h_t_toldTree, .ref h_t_splitPlaces, .ref h_t_layers, .int t_isWhy, .ref h_t_paper, .int t_papered, .ref h_t_held, .ref h_t_numbers, .ref h_t_sizes, .ref h_t_heldLeaves, .ref h_t_items, .ref h_t_kept, .int t_isKept])), (h_t_held, .inl (cI, 6, .inl (upd a_t_held p0.toNatClampNeg (p1 + (1 : Int32))))), (h_t_heldLeaves, .inl (cI, 6, .inl a_t_heldLeaves)), (h_t_sizes, .inl (cI, 6, .inl a_t_sizes)), (h_t_items, .inl (cI, 120, .inl a_t_items)), (h_t_tree, .inl (cI, 3, .inl a_t_tree)), (h_t_numbers, .inl (cJ, 6, .inr (.inl (vp_updL (vp_updL a_t_numbers p0.toNatClampNeg ((x12.1) - (x12.1) / (1000003 : Int64) * (1000003 : Int64))) p0.toNatClampNeg ((vp_updL a_t_numbers p0.toNatClampNeg ((x12.1) - (x12.1) / (1000003 : Int64) * (1000003 : Int64))) p0.toNatClampNeg))))), (h_t_rows, .inl (cI, 480, .inl (x12.2))), (h_t_powers, .inl (cI, 8, .inl a_t_powers))] H := hP
    have hD : va_D A [(h_t, .inr (8, [.int t_genus, .int t_marks, .ref h_t_powers, .int t_leaves, .int t_splits, .ref h_t_tree, .ref h_t_ahead, .ref h_t_behind, .ref h_t_before, .int t_done, .int t_undone, .ref h_t_rows, .ref h_t_met, .ref h_t_metSizes, .int t_metMany, .int t_treesSeen, .ref h_t_chosen, .ref h_t_tape, .int t_taped, .int t_place, .int t_isWrong, .int t_toldGenus, .int t_toldMarks, .ref h_t_toldPowers, .ref h_t_powerPlaces, .int t_isTree, .int t_toldLeaves, .int t_leavesPlace, .int t_toldSplits, .ref h_t_toldTree, .ref h_t_splitPlaces, .ref h_t_layers, .int t_isWhy, .ref h_t_paper, .int t_papered, .ref h_t_held, .ref h_t_numbers, .ref h_t_sizes, .ref h_t_heldLeaves, .ref h_t_items, .ref h_t_kept, .int t_isKept])), (h_t_held, .inl (cI, 6, .inl (upd a_t_held p0.toNatClampNeg (p1 + (1 : Int32))))), (h_t_heldLeaves, .inl (cI, 6, .inl a_t_heldLeaves)), (h_t_sizes, .inl (cI, 6, .inl a_t_sizes)), (h_t_items, .inl (cI, 120, .inl a_t_items)), (h_t_tree, .inl (cI, 3, .inl a_t_tree)), (h_t_numbers, .inl (cJ, 6, .inr (.inl (vp_updL (vp_updL a_t_numbers p0.toNatClampNeg ((x12.1) - (x12.1) / (1000003 : Int64) * (1000003 : Int64))) p0.toNatClampNeg ((vp_updL a_t_numbers p0.toNatClampNeg ((x12.1) - (x12.1) / (1000003 : Int64) * (1000003 : Int64))) p0.toNatClampNeg))))), (h_t_rows, .inl (cI, 480, .inl (x12.2))), (h_t_powers, .inl (cI, 8, .inl a_t_powers))] := hD
    refine lv_aload_n hx hb dX9_hold_83 rfl (lv_at hl 0 rfl) ?_
    refine va_get (D := G) (ci := 8) (v := .int t_marks) (C := RX9) (T := TX9) (N := 42) hx hb hts hinX9 hown hK hP 0 rfl rfl 1 (by decide) (hta _ mw_641) (fun _ h9 => h9) rfl dX9_hold_84 ?_
    have h9 := Option.some.inj h
    have e9 : t_marks = r0 := congrArg (fun z9 => z9.1) h9
    rw [← e9]
    have e9 : (upd a_t_held p0.toNatClampNeg (p1 + (1 : Int32))) = w0 := congrArg (fun z9 => z9.2.1) h9
    rw [← e9]
    have e9 : a_t_heldLeaves = w1 := congrArg (fun z9 => z9.2.2.1) h9
    rw [← e9]
    have e9 : a_t_sizes = w2 := congrArg (fun z9 => z9.2.2.2.1) h9
    rw [← e9]
    have e9 : a_t_items = w3 := congrArg (fun z9 => z9.2.2.2.2.1) h9
    rw [← e9]
    have e9 : (vp_updL (vp_updL a_t_numbers p0.toNatClampNeg ((x12.1) - (x12.1) / (1000003 : Int64) * (1000003 : Int64))) p0.toNatClampNeg ((vp_updL a_t_numbers p0.toNatClampNeg ((x12.1) - (x12.1) / (1000003 : Int64) * (1000003 : Int64))) p0.toNatClampNeg)) = w4 := congrArg (fun z9 => z9.2.2.2.2.2.1) h9
    rw [← e9]
    have e9 : (x12.2) = w5 := congrArg (fun z9 => z9.2.2.2.2.2.2) h9
    rw [← e9]
    exact k_iret hx hb hr hlocks hP hS rfl dX9_hold_87
  have h := it_n h c15
  refine lv_aload_n hx hb dX9_hold_63 rfl (lv_at hl 0 rfl) ?_
  refine va_get (D := G) (ci := 8) (v := .ref h_t_numbers) (C := RX9) (T := TX9) (N := 42) hx hb hts hinX9 hown hK hP 0 rfl rfl 36 (by decide) (hta _ mw_627) (fun _ h9 => h9) rfl dX9_hold_64 ?_
  refine lv_iload_n hx hb dX9_hold_67 rfl (lv_at hl 1 rfl) ?_
  obtain ⟨hn18, h⟩ := ck_e h
  refine va_lald hx hb hK hP 6 1 rfl rfl hn18 dX9_hold_68 ?_
  refine lv_ldc2 (v := (1000003 : Int64)) hx hb hown (hta _ mw_866) dX9_hold_69 ?_
  refine lv_ladd hx hb dX9_hold_72 ?_
  refine lv_goto (tgt := 82) hx hb dX9_hold_73 (by decide) ?_
  obtain ⟨hn19, h⟩ := ck_e h
  refine va_last hx hb hK hP hD hS 6 1 rfl rfl hn19 dX9_hold_82 (fun H locs hP hD hS => ?_)
  have hP : va_P G vwCl [(h_t, .inr (8, [.int t_genus, .int t_marks, .ref h_t_powers, .int t_leaves, .int t_splits, .ref h_t_tree, .ref h_t_ahead, .ref h_t_behind, .ref h_t_before, .int t_done, .int t_undone, .ref h_t_rows, .ref h_t_met, .ref h_t_metSizes, .int t_metMany, .int t_treesSeen, .ref h_t_chosen, .ref h_t_tape, .int t_taped, .int t_place, .int t_isWrong, .int t_toldGenus, .int t_toldMarks, .ref h_t_toldPowers, .ref h_t_powerPlaces, .int t_isTree, .int t_toldLeaves, .int t_leavesPlace, .int t_toldSplits, .ref h_t_toldTree, .ref h_t_splitPlaces, .ref h_t_layers, .int t_isWhy, .ref h_t_paper, .int t_papered, .ref h_t_held, .ref h_t_numbers, .ref h_t_sizes, .ref h_t_heldLeaves, .ref h_t_items, .ref h_t_kept, .int t_isKept])), (h_t_held, .inl (cI, 6, .inl (upd a_t_held p0.toNatClampNeg (p1 + (1 : Int32))))), (h_t_heldLeaves, .inl (cI, 6, .inl a_t_heldLeaves)), (h_t_sizes, .inl (cI, 6, .inl a_t_sizes)), (h_t_items, .inl (cI, 120, .inl a_t_items)), (h_t_tree, .inl (cI, 3, .inl a_t_tree)), (h_t_numbers, .inl (cJ, 6, .inr (.inl (vp_updL (vp_updL a_t_numbers p0.toNatClampNeg ((x12.1) - (x12.1) / (1000003 : Int64) * (1000003 : Int64))) p0.toNatClampNeg (((vp_updL a_t_numbers p0.toNatClampNeg ((x12.1) - (x12.1) / (1000003 : Int64) * (1000003 : Int64))) p0.toNatClampNeg) + (1000003 : Int64)))))), (h_t_rows, .inl (cI, 480, .inl (x12.2))), (h_t_powers, .inl (cI, 8, .inl a_t_powers))] H := hP
  have hD : va_D A [(h_t, .inr (8, [.int t_genus, .int t_marks, .ref h_t_powers, .int t_leaves, .int t_splits, .ref h_t_tree, .ref h_t_ahead, .ref h_t_behind, .ref h_t_before, .int t_done, .int t_undone, .ref h_t_rows, .ref h_t_met, .ref h_t_metSizes, .int t_metMany, .int t_treesSeen, .ref h_t_chosen, .ref h_t_tape, .int t_taped, .int t_place, .int t_isWrong, .int t_toldGenus, .int t_toldMarks, .ref h_t_toldPowers, .ref h_t_powerPlaces, .int t_isTree, .int t_toldLeaves, .int t_leavesPlace, .int t_toldSplits, .ref h_t_toldTree, .ref h_t_splitPlaces, .ref h_t_layers, .int t_isWhy, .ref h_t_paper, .int t_papered, .ref h_t_held, .ref h_t_numbers, .ref h_t_sizes, .ref h_t_heldLeaves, .ref h_t_items, .ref h_t_kept, .int t_isKept])), (h_t_held, .inl (cI, 6, .inl (upd a_t_held p0.toNatClampNeg (p1 + (1 : Int32))))), (h_t_heldLeaves, .inl (cI, 6, .inl a_t_heldLeaves)), (h_t_sizes, .inl (cI, 6, .inl a_t_sizes)), (h_t_items, .inl (cI, 120, .inl a_t_items)), (h_t_tree, .inl (cI, 3, .inl a_t_tree)), (h_t_numbers, .inl (cJ, 6, .inr (.inl (vp_updL (vp_updL a_t_numbers p0.toNatClampNeg ((x12.1) - (x12.1) / (1000003 : Int64) * (1000003 : Int64))) p0.toNatClampNeg (((vp_updL a_t_numbers p0.toNatClampNeg ((x12.1) - (x12.1) / (1000003 : Int64) * (1000003 : Int64))) p0.toNatClampNeg) + (1000003 : Int64)))))), (h_t_rows, .inl (cI, 480, .inl (x12.2))), (h_t_powers, .inl (cI, 8, .inl a_t_powers))] := hD
  refine lv_aload_n hx hb dX9_hold_83 rfl (lv_at hl 0 rfl) ?_
  refine va_get (D := G) (ci := 8) (v := .int t_marks) (C := RX9) (T := TX9) (N := 42) hx hb hts hinX9 hown hK hP 0 rfl rfl 1 (by decide) (hta _ mw_641) (fun _ h9 => h9) rfl dX9_hold_84 ?_
  have h9 := Option.some.inj h
  have e9 : t_marks = r0 := congrArg (fun z9 => z9.1) h9
  rw [← e9]
  have e9 : (upd a_t_held p0.toNatClampNeg (p1 + (1 : Int32))) = w0 := congrArg (fun z9 => z9.2.1) h9
  rw [← e9]
  have e9 : a_t_heldLeaves = w1 := congrArg (fun z9 => z9.2.2.1) h9
  rw [← e9]
  have e9 : a_t_sizes = w2 := congrArg (fun z9 => z9.2.2.2.1) h9
  rw [← e9]
  have e9 : a_t_items = w3 := congrArg (fun z9 => z9.2.2.2.2.1) h9
  rw [← e9]
  have e9 : (vp_updL (vp_updL a_t_numbers p0.toNatClampNeg ((x12.1) - (x12.1) / (1000003 : Int64) * (1000003 : Int64))) p0.toNatClampNeg (((vp_updL a_t_numbers p0.toNatClampNeg ((x12.1) - (x12.1) / (1000003 : Int64) * (1000003 : Int64))) p0.toNatClampNeg) + (1000003 : Int64))) = w4 := congrArg (fun z9 => z9.2.2.2.2.2.1) h9
  rw [← e9]
  have e9 : (x12.2) = w5 := congrArg (fun z9 => z9.2.2.2.2.2.2) h9
  rw [← e9]
  exact k_iret hx hb hr hlocks hP hS rfl dX9_hold_87

/-! X9_lose -/
set_option maxHeartbeats 4000000 in
set_option maxRecDepth 100000 in
theorem c_X9_lose (l : Launch) (G : va_G) (cI cJ cD cH : ClassId) (sz : Nat) (h_t : Nat) (h_t_held : Nat) (h_t_powers : Nat) (h_t_tree : Nat) (h_t_ahead : Nat) (h_t_behind : Nat) (h_t_before : Nat) (h_t_rows : Nat) (h_t_met : Nat) (h_t_metSizes : Nat) (h_t_chosen : Nat) (h_t_tape : Nat) (h_t_toldPowers : Nat) (h_t_powerPlaces : Nat) (h_t_toldTree : Nat) (h_t_splitPlaces : Nat) (h_t_layers : Nat) (h_t_paper : Nat) (h_t_numbers : Nat) (h_t_sizes : Nat) (h_t_heldLeaves : Nat) (h_t_items : Nat) (h_t_kept : Nat) (t_genus : Int32) (t_marks : Int32) (t_leaves : Int32) (t_splits : Int32) (t_done : Int32) (t_undone : Int32) (t_metMany : Int32) (t_treesSeen : Int32) (t_taped : Int32) (t_place : Int32) (t_isWrong : Int32) (t_toldGenus : Int32) (t_toldMarks : Int32) (t_isTree : Int32) (t_toldLeaves : Int32) (t_leavesPlace : Int32) (t_toldSplits : Int32) (t_isWhy : Int32) (t_papered : Int32) (t_isKept : Int32) (a_t_held : Nat → Int32) (p0 : Int32) (r0 : Int32) (w0 : Nat → Int32) (hF : F_X9_lose a_t_held p0 = some (r0, w0)) : Met l yX9_lose wsX9_lose ({ frames := 2, cells := 0, slots := 0, locals := 45 }) (k_pre G (k_T cI cJ cD cH) [(h_t, .inr (8, [.int t_genus, .int t_marks, .ref h_t_powers, .int t_leaves, .int t_splits, .ref h_t_tree, .ref h_t_ahead, .ref h_t_behind, .ref h_t_before, .int t_done, .int t_undone, .ref h_t_rows, .ref h_t_met, .ref h_t_metSizes, .int t_metMany, .int t_treesSeen, .ref h_t_chosen, .ref h_t_tape, .int t_taped, .int t_place, .int t_isWrong, .int t_toldGenus, .int t_toldMarks, .ref h_t_toldPowers, .ref h_t_powerPlaces, .int t_isTree, .int t_toldLeaves, .int t_leavesPlace, .int t_toldSplits, .ref h_t_toldTree, .ref h_t_splitPlaces, .ref h_t_layers, .int t_isWhy, .ref h_t_paper, .int t_papered, .ref h_t_held, .ref h_t_numbers, .ref h_t_sizes, .ref h_t_heldLeaves, .ref h_t_items, .ref h_t_kept, .int t_isKept])), (h_t_held, .inl (cI, 6, .inl a_t_held))] sz [.ref h_t, .int p0]) (va_Qi (fun r (_ : Unit) => r = r0 ∧ True) (fun _ t => va_P G vwCl [(h_t, .inr (8, [.int t_genus, .int t_marks, .ref h_t_powers, .int t_leaves, .int t_splits, .ref h_t_tree, .ref h_t_ahead, .ref h_t_behind, .ref h_t_before, .int t_done, .int t_undone, .ref h_t_rows, .ref h_t_met, .ref h_t_metSizes, .int t_metMany, .int t_treesSeen, .ref h_t_chosen, .ref h_t_tape, .int t_taped, .int t_place, .int t_isWrong, .int t_toldGenus, .int t_toldMarks, .ref h_t_toldPowers, .ref h_t_powerPlaces, .int t_isTree, .int t_toldLeaves, .int t_leavesPlace, .int t_toldSplits, .ref h_t_toldTree, .ref h_t_splitPlaces, .ref h_t_layers, .int t_isWhy, .ref h_t_paper, .int t_papered, .ref h_t_held, .ref h_t_numbers, .ref h_t_sizes, .ref h_t_heldLeaves, .ref h_t_items, .ref h_t_kept, .int t_isKept])), (h_t_held, .inl (cI, 6, .inl w0))] t.heap) (va_A [(h_t, .inr (8, [.int t_genus, .int t_marks, .ref h_t_powers, .int t_leaves, .int t_splits, .ref h_t_tree, .ref h_t_ahead, .ref h_t_behind, .ref h_t_before, .int t_done, .int t_undone, .ref h_t_rows, .ref h_t_met, .ref h_t_metSizes, .int t_metMany, .int t_treesSeen, .ref h_t_chosen, .ref h_t_tape, .int t_taped, .int t_place, .int t_isWrong, .int t_toldGenus, .int t_toldMarks, .ref h_t_toldPowers, .ref h_t_powerPlaces, .int t_isTree, .int t_toldLeaves, .int t_leavesPlace, .int t_toldSplits, .ref h_t_toldTree, .ref h_t_splitPlaces, .ref h_t_layers, .int t_isWhy, .ref h_t_paper, .int t_papered, .ref h_t_held, .ref h_t_numbers, .ref h_t_sizes, .ref h_t_heldLeaves, .ref h_t_items, .ref h_t_kept, .int t_isKept])), (h_t_held, .inl (cI, 6, .inl a_t_held))] sz)) 0 0 (va_A [(h_t, .inr (8, [.int t_genus, .int t_marks, .ref h_t_powers, .int t_leaves, .int t_splits, .ref h_t_tree, .ref h_t_ahead, .ref h_t_behind, .ref h_t_before, .int t_done, .int t_undone, .ref h_t_rows, .ref h_t_met, .ref h_t_metSizes, .int t_metMany, .int t_treesSeen, .ref h_t_chosen, .ref h_t_tape, .int t_taped, .int t_place, .int t_isWrong, .int t_toldGenus, .int t_toldMarks, .ref h_t_toldPowers, .ref h_t_powerPlaces, .int t_isTree, .int t_toldLeaves, .int t_leavesPlace, .int t_toldSplits, .ref h_t_toldTree, .ref h_t_splitPlaces, .ref h_t_layers, .int t_isWhy, .ref h_t_paper, .int t_papered, .ref h_t_held, .ref h_t_numbers, .ref h_t_sizes, .ref h_t_heldLeaves, .ref h_t_items, .ref h_t_kept, .int t_isKept])), (h_t_held, .inl (cI, 6, .inl a_t_held))] sz) := by
  refine Met.ofW (cc := cX9_lose) (maxL := 3) (ret := (some .int)) (by decide) rfl ?_
  intro p e s m args below meth c s₁ B hml hv
  obtain ⟨rfl, hsz, hP, hK, hD0⟩ := hv
  have hx := B.exec
  have hb := B.bytes
  have hr := B.returns
  have hts := atoms_spec (ws := wsX9_lose) B.pre
  have hta : ∀ w ∈ wA, w.before ([.ref h_t, .int p0] : List Value).toArray s = true := hta_of hts
  have hown : s.vm.findClass RX9 = some m.cls := findClass_of_methodNamed B.named
  have hlocks := B.notSynchronized
  subst hsz
  have hD := hD0.self (sz := s.heap.size)
  generalize hAe : va_A [(h_t, .inr (8, [.int t_genus, .int t_marks, .ref h_t_powers, .int t_leaves, .int t_splits, .ref h_t_tree, .ref h_t_ahead, .ref h_t_behind, .ref h_t_before, .int t_done, .int t_undone, .ref h_t_rows, .ref h_t_met, .ref h_t_metSizes, .int t_metMany, .int t_treesSeen, .ref h_t_chosen, .ref h_t_tape, .int t_taped, .int t_place, .int t_isWrong, .int t_toldGenus, .int t_toldMarks, .ref h_t_toldPowers, .ref h_t_powerPlaces, .int t_isTree, .int t_toldLeaves, .int t_leavesPlace, .int t_toldSplits, .ref h_t_toldTree, .ref h_t_splitPlaces, .ref h_t_layers, .int t_isWhy, .ref h_t_paper, .int t_papered, .ref h_t_held, .ref h_t_numbers, .ref h_t_sizes, .ref h_t_heldLeaves, .ref h_t_items, .ref h_t_kept, .int t_isKept])), (h_t_held, .inl (cI, 6, .inl a_t_held))] s.heap.size = A at hD ⊢
  have hA : ∀ q : Nat, s.heap.size ≤ q → A q := fun q h => by rw [← hAe]; exact Or.inr h
  have hS : va_S A s.heap s.heap [] := va_S.rf
  have hl := lv_entry ([.ref h_t, .int p0]) (n := 3) (Nat.le_of_ble_eq_true rfl)
  rw [lg_entry_eq]
  generalize (lg_sl ([.ref h_t, .int p0]) ++ List.replicate (3 - (lg_sl ([.ref h_t, .int p0])).length) Slot.unset).toArray = ls at hl ⊢
  have hl : lv_has ls 3 [(0, .ref h_t), (1, .int p0)] := hl
  have hinX9 : ∀ w ∈ wsX90, w ∈ wsX9_lose := hin_of in_X9
  have h := hF
  unfold F_X9_lose at h
  refine lv_iload_n hx hb dX9_lose_0 rfl (lv_at hl 1 rfl) ?_
  obtain ⟨x1, hx1, h⟩ := bd_e h
  try dsimp only at h
  refine k_SiU (n := 1) (As := [.int p0]) (rest := []) hx hb hml hown hts (c_X9_isHolder l G cI cJ cD cH s.heap.size p0 x1 hx1) gX9_lose_X9_isHolder rfl rfl rfl (by decide +kernel) ⟨by first | exact Nat.le_of_ble_eq_true rfl | (simp only [headSpec]; omega), by first | exact Nat.le_of_ble_eq_true rfl | (simp only [headSpec]; omega)⟩ hK hP hD hS hA [] (by decide) rfl rfl rfl hl.1 (Nat.le_of_ble_eq_true rfl) dX9_lose_1 ⟨Nat.zero_le _, Nat.zero_le _⟩ (fun hp1 H locs hP hS => ?_)
  refine lv_if_ne (tgt := 9) hx hb dX9_lose_4 (by decide) (fun c2 => ?_) (fun c2 => ?_)
  rotate_left
  · have h := it_p h c2
    refine lv_iconst (v := (-1 : Int32)) hx hb dX9_lose_7 (by decide) ?_
    have h9 := Option.some.inj h
    have e9 : (-1 : Int32) = r0 := congrArg (fun z9 => z9.1) h9
    rw [← e9]
    have e9 : a_t_held = w0 := congrArg (fun z9 => z9.2) h9
    rw [← e9]
    exact k_iret hx hb hr hlocks hP hS rfl dX9_lose_8
  have h := it_n h c2
  refine lv_aload_n hx hb dX9_lose_9 rfl (lv_at hl 0 rfl) ?_
  refine va_get (D := G) (ci := 8) (v := .ref h_t_held) (C := RX9) (T := TX9) (N := 42) hx hb hts hinX9 hown hK hP 0 rfl rfl 35 (by decide) (hta _ mw_626) (fun _ h9 => h9) rfl dX9_lose_10 ?_
  refine lv_iload_n hx hb dX9_lose_13 rfl (lv_at hl 1 rfl) ?_
  obtain ⟨hn3, h⟩ := ck_e h
  refine va_iald hx hb hK hP 1 0 rfl rfl hn3 dX9_lose_14 ?_
  refine lv_istore_n (lv' := [(2, .int (a_t_held p0.toNatClampNeg)), (0, .ref h_t), (1, .int p0)]) hx hb dX9_lose_15 rfl hl (by decide) rfl (fun ls hl => ?_)
  refine lv_aload_n hx hb dX9_lose_16 rfl (lv_at hl 1 rfl) ?_
  refine va_get (D := G) (ci := 8) (v := .ref h_t_held) (C := RX9) (T := TX9) (N := 42) hx hb hts hinX9 hown hK hP 0 rfl rfl 35 (by decide) (hta _ mw_626) (fun _ h9 => h9) rfl dX9_lose_17 ?_
  refine lv_iload_n hx hb dX9_lose_20 rfl (lv_at hl 2 rfl) ?_
  refine lv_iconst (v := (0 : Int32)) hx hb dX9_lose_21 (by decide) ?_
  obtain ⟨hn4, h⟩ := ck_e h
  refine va_iast hx hb hK hP hD hS 1 0 rfl rfl hn4 dX9_lose_22 (fun H locs hP hD hS => ?_)
  have hP : va_P G vwCl [(h_t, .inr (8, [.int t_genus, .int t_marks, .ref h_t_powers, .int t_leaves, .int t_splits, .ref h_t_tree, .ref h_t_ahead, .ref h_t_behind, .ref h_t_before, .int t_done, .int t_undone, .ref h_t_rows, .ref h_t_met, .ref h_t_metSizes, .int t_metMany, .int t_treesSeen, .ref h_t_chosen, .ref h_t_tape, .int t_taped, .int t_place, .int t_isWrong, .int t_toldGenus, .int t_toldMarks, .ref h_t_toldPowers, .ref h_t_powerPlaces, .int t_isTree, .int t_toldLeaves, .int t_leavesPlace, .int t_toldSplits, .ref h_t_toldTree, .ref h_t_splitPlaces, .ref h_t_layers, .int t_isWhy, .ref h_t_paper, .int t_papered, .ref h_t_held, .ref h_t_numbers, .ref h_t_sizes, .ref h_t_heldLeaves, .ref h_t_items, .ref h_t_kept, .int t_isKept])), (h_t_held, .inl (cI, 6, .inl (upd a_t_held p0.toNatClampNeg (0 : Int32))))] H := hP
  have hD : va_D A [(h_t, .inr (8, [.int t_genus, .int t_marks, .ref h_t_powers, .int t_leaves, .int t_splits, .ref h_t_tree, .ref h_t_ahead, .ref h_t_behind, .ref h_t_before, .int t_done, .int t_undone, .ref h_t_rows, .ref h_t_met, .ref h_t_metSizes, .int t_metMany, .int t_treesSeen, .ref h_t_chosen, .ref h_t_tape, .int t_taped, .int t_place, .int t_isWrong, .int t_toldGenus, .int t_toldMarks, .ref h_t_toldPowers, .ref h_t_powerPlaces, .int t_isTree, .int t_toldLeaves, .int t_leavesPlace, .int t_toldSplits, .ref h_t_toldTree, .ref h_t_splitPlaces, .ref h_t_layers, .int t_isWhy, .ref h_t_paper, .int t_papered, .ref h_t_held, .ref h_t_numbers, .ref h_t_sizes, .ref h_t_heldLeaves, .ref h_t_items, .ref h_t_kept, .int t_isKept])), (h_t_held, .inl (cI, 6, .inl (upd a_t_held p0.toNatClampNeg (0 : Int32))))] := hD
  refine lv_iload_n hx hb dX9_lose_23 rfl (lv_at hl 0 rfl) ?_
  have h9 := Option.some.inj h
  have e9 : (a_t_held p0.toNatClampNeg) = r0 := congrArg (fun z9 => z9.1) h9
  rw [← e9]
  have e9 : (upd a_t_held p0.toNatClampNeg (0 : Int32)) = w0 := congrArg (fun z9 => z9.2) h9
  rw [← e9]
  exact k_iret hx hb hr hlocks hP hS rfl dX9_lose_24

/-! X9_isFull -/
set_option maxHeartbeats 4000000 in
set_option maxRecDepth 100000 in
theorem c_X9_isFull (l : Launch) (G : va_G) (cI cJ cD cH : ClassId) (sz : Nat) (h_t : Nat) (h_t_sizes : Nat) (h_t_heldLeaves : Nat) (h_t_powers : Nat) (h_t_tree : Nat) (h_t_ahead : Nat) (h_t_behind : Nat) (h_t_before : Nat) (h_t_rows : Nat) (h_t_met : Nat) (h_t_metSizes : Nat) (h_t_chosen : Nat) (h_t_tape : Nat) (h_t_toldPowers : Nat) (h_t_powerPlaces : Nat) (h_t_toldTree : Nat) (h_t_splitPlaces : Nat) (h_t_layers : Nat) (h_t_paper : Nat) (h_t_held : Nat) (h_t_numbers : Nat) (h_t_items : Nat) (h_t_kept : Nat) (t_genus : Int32) (t_marks : Int32) (t_leaves : Int32) (t_splits : Int32) (t_done : Int32) (t_undone : Int32) (t_metMany : Int32) (t_treesSeen : Int32) (t_taped : Int32) (t_place : Int32) (t_isWrong : Int32) (t_toldGenus : Int32) (t_toldMarks : Int32) (t_isTree : Int32) (t_toldLeaves : Int32) (t_leavesPlace : Int32) (t_toldSplits : Int32) (t_isWhy : Int32) (t_papered : Int32) (t_isKept : Int32) (a_t_sizes : Nat → Int32) (a_t_heldLeaves : Nat → Int32) (p0 : Int32) (r0 : Int32) (hF : F_X9_isFull a_t_sizes a_t_heldLeaves p0 = some r0) : Met l yX9_isFull wsX9_isFull ({ frames := 0, cells := 0, slots := 0, locals := 0 }) (k_pre G (k_T cI cJ cD cH) [(h_t, .inr (8, [.int t_genus, .int t_marks, .ref h_t_powers, .int t_leaves, .int t_splits, .ref h_t_tree, .ref h_t_ahead, .ref h_t_behind, .ref h_t_before, .int t_done, .int t_undone, .ref h_t_rows, .ref h_t_met, .ref h_t_metSizes, .int t_metMany, .int t_treesSeen, .ref h_t_chosen, .ref h_t_tape, .int t_taped, .int t_place, .int t_isWrong, .int t_toldGenus, .int t_toldMarks, .ref h_t_toldPowers, .ref h_t_powerPlaces, .int t_isTree, .int t_toldLeaves, .int t_leavesPlace, .int t_toldSplits, .ref h_t_toldTree, .ref h_t_splitPlaces, .ref h_t_layers, .int t_isWhy, .ref h_t_paper, .int t_papered, .ref h_t_held, .ref h_t_numbers, .ref h_t_sizes, .ref h_t_heldLeaves, .ref h_t_items, .ref h_t_kept, .int t_isKept])), (h_t_sizes, .inl (cI, 6, .inl a_t_sizes)), (h_t_heldLeaves, .inl (cI, 6, .inl a_t_heldLeaves))] sz [.ref h_t, .int p0]) (va_Qi (fun r (_ : Unit) => r = r0 ∧ narrow .boolean (.int r0) = .int r0) (fun _ t => va_P G vwCl [(h_t, .inr (8, [.int t_genus, .int t_marks, .ref h_t_powers, .int t_leaves, .int t_splits, .ref h_t_tree, .ref h_t_ahead, .ref h_t_behind, .ref h_t_before, .int t_done, .int t_undone, .ref h_t_rows, .ref h_t_met, .ref h_t_metSizes, .int t_metMany, .int t_treesSeen, .ref h_t_chosen, .ref h_t_tape, .int t_taped, .int t_place, .int t_isWrong, .int t_toldGenus, .int t_toldMarks, .ref h_t_toldPowers, .ref h_t_powerPlaces, .int t_isTree, .int t_toldLeaves, .int t_leavesPlace, .int t_toldSplits, .ref h_t_toldTree, .ref h_t_splitPlaces, .ref h_t_layers, .int t_isWhy, .ref h_t_paper, .int t_papered, .ref h_t_held, .ref h_t_numbers, .ref h_t_sizes, .ref h_t_heldLeaves, .ref h_t_items, .ref h_t_kept, .int t_isKept])), (h_t_sizes, .inl (cI, 6, .inl a_t_sizes)), (h_t_heldLeaves, .inl (cI, 6, .inl a_t_heldLeaves))] t.heap) (va_A [(h_t, .inr (8, [.int t_genus, .int t_marks, .ref h_t_powers, .int t_leaves, .int t_splits, .ref h_t_tree, .ref h_t_ahead, .ref h_t_behind, .ref h_t_before, .int t_done, .int t_undone, .ref h_t_rows, .ref h_t_met, .ref h_t_metSizes, .int t_metMany, .int t_treesSeen, .ref h_t_chosen, .ref h_t_tape, .int t_taped, .int t_place, .int t_isWrong, .int t_toldGenus, .int t_toldMarks, .ref h_t_toldPowers, .ref h_t_powerPlaces, .int t_isTree, .int t_toldLeaves, .int t_leavesPlace, .int t_toldSplits, .ref h_t_toldTree, .ref h_t_splitPlaces, .ref h_t_layers, .int t_isWhy, .ref h_t_paper, .int t_papered, .ref h_t_held, .ref h_t_numbers, .ref h_t_sizes, .ref h_t_heldLeaves, .ref h_t_items, .ref h_t_kept, .int t_isKept])), (h_t_sizes, .inl (cI, 6, .inl a_t_sizes)), (h_t_heldLeaves, .inl (cI, 6, .inl a_t_heldLeaves))] sz)) 0 0 (va_A [(h_t, .inr (8, [.int t_genus, .int t_marks, .ref h_t_powers, .int t_leaves, .int t_splits, .ref h_t_tree, .ref h_t_ahead, .ref h_t_behind, .ref h_t_before, .int t_done, .int t_undone, .ref h_t_rows, .ref h_t_met, .ref h_t_metSizes, .int t_metMany, .int t_treesSeen, .ref h_t_chosen, .ref h_t_tape, .int t_taped, .int t_place, .int t_isWrong, .int t_toldGenus, .int t_toldMarks, .ref h_t_toldPowers, .ref h_t_powerPlaces, .int t_isTree, .int t_toldLeaves, .int t_leavesPlace, .int t_toldSplits, .ref h_t_toldTree, .ref h_t_splitPlaces, .ref h_t_layers, .int t_isWhy, .ref h_t_paper, .int t_papered, .ref h_t_held, .ref h_t_numbers, .ref h_t_sizes, .ref h_t_heldLeaves, .ref h_t_items, .ref h_t_kept, .int t_isKept])), (h_t_sizes, .inl (cI, 6, .inl a_t_sizes)), (h_t_heldLeaves, .inl (cI, 6, .inl a_t_heldLeaves))] sz) := by
  refine Met.ofW (cc := cX9_isFull) (maxL := 2) (ret := (some .boolean)) (by decide) rfl ?_
  intro p e s m args below meth c s₁ B hml hv
  obtain ⟨rfl, hsz, hP, hK, hD0⟩ := hv
  have hx := B.exec
  have hb := B.bytes
  have hr := B.returns
  have hts := atoms_spec (ws := wsX9_isFull) B.pre
  have hta : ∀ w ∈ wA, w.before ([.ref h_t, .int p0] : List Value).toArray s = true := hta_of hts
  have hown : s.vm.findClass RX9 = some m.cls := findClass_of_methodNamed B.named
  have hlocks := B.notSynchronized
  subst hsz
  have hD := hD0.self (sz := s.heap.size)
  generalize hAe : va_A [(h_t, .inr (8, [.int t_genus, .int t_marks, .ref h_t_powers, .int t_leaves, .int t_splits, .ref h_t_tree, .ref h_t_ahead, .ref h_t_behind, .ref h_t_before, .int t_done, .int t_undone, .ref h_t_rows, .ref h_t_met, .ref h_t_metSizes, .int t_metMany, .int t_treesSeen, .ref h_t_chosen, .ref h_t_tape, .int t_taped, .int t_place, .int t_isWrong, .int t_toldGenus, .int t_toldMarks, .ref h_t_toldPowers, .ref h_t_powerPlaces, .int t_isTree, .int t_toldLeaves, .int t_leavesPlace, .int t_toldSplits, .ref h_t_toldTree, .ref h_t_splitPlaces, .ref h_t_layers, .int t_isWhy, .ref h_t_paper, .int t_papered, .ref h_t_held, .ref h_t_numbers, .ref h_t_sizes, .ref h_t_heldLeaves, .ref h_t_items, .ref h_t_kept, .int t_isKept])), (h_t_sizes, .inl (cI, 6, .inl a_t_sizes)), (h_t_heldLeaves, .inl (cI, 6, .inl a_t_heldLeaves))] s.heap.size = A at hD ⊢
  have hA : ∀ q : Nat, s.heap.size ≤ q → A q := fun q h => by rw [← hAe]; exact Or.inr h
  have hS : va_S A s.heap s.heap [] := va_S.rf
  have hl := lv_entry ([.ref h_t, .int p0]) (n := 2) (Nat.le_of_ble_eq_true rfl)
  rw [lg_entry_eq]
  generalize (lg_sl ([.ref h_t, .int p0]) ++ List.replicate (2 - (lg_sl ([.ref h_t, .int p0])).length) Slot.unset).toArray = ls at hl ⊢
  have hl : lv_has ls 2 [(0, .ref h_t), (1, .int p0)] := hl
  have hinX9 : ∀ w ∈ wsX90, w ∈ wsX9_isFull := hin_of in_X9
  have h := hF
  unfold F_X9_isFull at h
  refine lv_aload_n hx hb dX9_isFull_0 rfl (lv_at hl 0 rfl) ?_
  refine va_get (D := G) (ci := 8) (v := .ref h_t_sizes) (C := RX9) (T := TX9) (N := 42) hx hb hts hinX9 hown hK hP 0 rfl rfl 37 (by decide) (hta _ mw_628) (fun _ h9 => h9) rfl dX9_isFull_1 ?_
  refine lv_iload_n hx hb dX9_isFull_4 rfl (lv_at hl 1 rfl) ?_
  obtain ⟨hn1, h⟩ := ck_e h
  refine va_iald hx hb hK hP 1 0 rfl rfl hn1 dX9_isFull_5 ?_
  refine lv_aload_n hx hb dX9_isFull_6 rfl (lv_at hl 0 rfl) ?_
  refine va_get (D := G) (ci := 8) (v := .ref h_t_heldLeaves) (C := RX9) (T := TX9) (N := 42) hx hb hts hinX9 hown hK hP 0 rfl rfl 38 (by decide) (hta _ mw_629) (fun _ h9 => h9) rfl dX9_isFull_7 ?_
  refine lv_iload_n hx hb dX9_isFull_10 rfl (lv_at hl 1 rfl) ?_
  obtain ⟨hn2, h⟩ := ck_e h
  refine va_iald hx hb hK hP 2 0 rfl rfl hn2 dX9_isFull_11 ?_
  refine lv_iconst (v := (3 : Int32)) hx hb dX9_isFull_12 (by decide) ?_
  refine lv_isub hx hb dX9_isFull_13 ?_
  refine lv_icmp_ne (tgt := 21) hx hb dX9_isFull_14 (by decide) (fun c3 => ?_) (fun c3 => ?_)
  · have h := it_n h c3
    refine lv_iconst (v := (0 : Int32)) hx hb dX9_isFull_21 (by decide) ?_
    have h9 := Option.some.inj h
    have e9 : (0 : Int32) = r0 := congrArg (fun z9 => z9) h9
    rw [← e9]
    exact k_zret hx hb hr hlocks hP hS rfl rfl dX9_isFull_22
  have h := it_p h c3
  refine lv_iconst (v := (1 : Int32)) hx hb dX9_isFull_17 (by decide) ?_
  refine lv_goto (tgt := 22) hx hb dX9_isFull_18 (by decide) ?_
  have h9 := Option.some.inj h
  have e9 : (1 : Int32) = r0 := congrArg (fun z9 => z9) h9
  rw [← e9]
  exact k_zret hx hb hr hlocks hP hS rfl rfl dX9_isFull_22

/-! X9_taken -/
set_option maxHeartbeats 4000000 in
set_option maxRecDepth 100000 in
theorem tJ_X9_taken_120 {l : Launch} {G : va_G} {cI cJ cD cH : ClassId} {h_t : Nat} {h_t_held : Nat} {h_t_sizes : Nat} {h_t_heldLeaves : Nat} {h_t_numbers : Nat} {h_t_powers : Nat} {h_t_tree : Nat} {h_t_ahead : Nat} {h_t_behind : Nat} {h_t_before : Nat} {h_t_rows : Nat} {h_t_met : Nat} {h_t_metSizes : Nat} {h_t_chosen : Nat} {h_t_tape : Nat} {h_t_toldPowers : Nat} {h_t_powerPlaces : Nat} {h_t_toldTree : Nat} {h_t_splitPlaces : Nat} {h_t_layers : Nat} {h_t_paper : Nat} {h_t_items : Nat} {h_t_kept : Nat} {t_genus : Int32} {t_marks : Int32} {t_leaves : Int32} {t_splits : Int32} {t_done : Int32} {t_undone : Int32} {t_metMany : Int32} {t_treesSeen : Int32} {t_taped : Int32} {t_place : Int32} {t_isWrong : Int32} {t_toldGenus : Int32} {t_toldMarks : Int32} {t_isTree : Int32} {t_toldLeaves : Int32} {t_leavesPlace : Int32} {t_toldSplits : Int32} {t_isWhy : Int32} {t_papered : Int32} {t_isKept : Int32} {a_t_held : Nat → Int32} {a_t_sizes : Nat → Int32} {a_t_heldLeaves : Nat → Int32} {a_t_numbers : Nat → Int64} {p0 : Int32} {p1 : Int32} {r0 : Int32} {p : Program} {e : Env} {s : State} {m : MethodId} {below : List Frame} {meth : Method} {c : Code} {A : Nat → Prop} (hx : p.tables.exec = Jvm.exec) (hb : c.code = cX9_taken) (hr : meth.sig.returnType = (some .int)) (hml : c.maxLocals = 4) (hts : ∀ w ∈ wsX9_taken, w.before ([.ref h_t, .int p0, .int p1] : List Value).toArray s = true) (hown : s.vm.findClass RX9 = some m.cls) (hlocks : meth.locks = false) (hK : va_K G vwCl (k_T cI cJ cD cH) s) (hA : ∀ q : Nat, s.heap.size ≤ q → A q) : ∀  (vJ120_0 : Int32) (H : Heap) (locs : List Loc) (ls : Array Slot), va_P G vwCl [(h_t, .inr (8, [.int t_genus, .int t_marks, .ref h_t_powers, .int t_leaves, .int t_splits, .ref h_t_tree, .ref h_t_ahead, .ref h_t_behind, .ref h_t_before, .int t_done, .int t_undone, .ref h_t_rows, .ref h_t_met, .ref h_t_metSizes, .int t_metMany, .int t_treesSeen, .ref h_t_chosen, .ref h_t_tape, .int t_taped, .int t_place, .int t_isWrong, .int t_toldGenus, .int t_toldMarks, .ref h_t_toldPowers, .ref h_t_powerPlaces, .int t_isTree, .int t_toldLeaves, .int t_leavesPlace, .int t_toldSplits, .ref h_t_toldTree, .ref h_t_splitPlaces, .ref h_t_layers, .int t_isWhy, .ref h_t_paper, .int t_papered, .ref h_t_held, .ref h_t_numbers, .ref h_t_sizes, .ref h_t_heldLeaves, .ref h_t_items, .ref h_t_kept, .int t_isKept])), (h_t_held, .inl (cI, 6, .inl a_t_held)), (h_t_sizes, .inl (cI, 6, .inl a_t_sizes)), (h_t_heldLeaves, .inl (cI, 6, .inl a_t_heldLeaves)), (h_t_numbers, .inl (cJ, 6, .inr (.inl a_t_numbers)))] H → va_D A [(h_t, .inr (8, [.int t_genus, .int t_marks, .ref h_t_powers, .int t_leaves, .int t_splits, .ref h_t_tree, .ref h_t_ahead, .ref h_t_behind, .ref h_t_before, .int t_done, .int t_undone, .ref h_t_rows, .ref h_t_met, .ref h_t_metSizes, .int t_metMany, .int t_treesSeen, .ref h_t_chosen, .ref h_t_tape, .int t_taped, .int t_place, .int t_isWrong, .int t_toldGenus, .int t_toldMarks, .ref h_t_toldPowers, .ref h_t_powerPlaces, .int t_isTree, .int t_toldLeaves, .int t_leavesPlace, .int t_toldSplits, .ref h_t_toldTree, .ref h_t_splitPlaces, .ref h_t_layers, .int t_isWhy, .ref h_t_paper, .int t_papered, .ref h_t_held, .ref h_t_numbers, .ref h_t_sizes, .ref h_t_heldLeaves, .ref h_t_items, .ref h_t_kept, .int t_isKept])), (h_t_held, .inl (cI, 6, .inl a_t_held)), (h_t_sizes, .inl (cI, 6, .inl a_t_sizes)), (h_t_heldLeaves, .inl (cI, 6, .inl a_t_heldLeaves)), (h_t_numbers, .inl (cJ, 6, .inr (.inl a_t_numbers)))] → va_S A s.heap H locs → lv_has ls 4 [(0, .ref h_t), (1, .int p0)] → J_X9_taken_120 a_t_heldLeaves p0 vJ120_0 = some r0 → W p l e (headSpec wsX9_taken ({ frames := 2, cells := 0, slots := 0, locals := 45 })).room s m ([.ref h_t, .int p0, .int p1] : List Value).toArray below meth c H locs 0 0 (MQ below (va_Qi (fun r (_ : Unit) => r = r0 ∧ True) (fun _ t => va_P G vwCl [(h_t, .inr (8, [.int t_genus, .int t_marks, .ref h_t_powers, .int t_leaves, .int t_splits, .ref h_t_tree, .ref h_t_ahead, .ref h_t_behind, .ref h_t_before, .int t_done, .int t_undone, .ref h_t_rows, .ref h_t_met, .ref h_t_metSizes, .int t_metMany, .int t_treesSeen, .ref h_t_chosen, .ref h_t_tape, .int t_taped, .int t_place, .int t_isWrong, .int t_toldGenus, .int t_toldMarks, .ref h_t_toldPowers, .ref h_t_powerPlaces, .int t_isTree, .int t_toldLeaves, .int t_leavesPlace, .int t_toldSplits, .ref h_t_toldTree, .ref h_t_splitPlaces, .ref h_t_layers, .int t_isWhy, .ref h_t_paper, .int t_papered, .ref h_t_held, .ref h_t_numbers, .ref h_t_sizes, .ref h_t_heldLeaves, .ref h_t_items, .ref h_t_kept, .int t_isKept])), (h_t_held, .inl (cI, 6, .inl a_t_held)), (h_t_sizes, .inl (cI, 6, .inl a_t_sizes)), (h_t_heldLeaves, .inl (cI, 6, .inl a_t_heldLeaves)), (h_t_numbers, .inl (cJ, 6, .inr (.inl a_t_numbers)))] t.heap) A) ([.ref h_t, .int p0, .int p1] : List Value).toArray s 0 0 A) (F0 m 120 ls [.int vJ120_0]) := by
  have hta : ∀ w ∈ wA, w.before ([.ref h_t, .int p0, .int p1] : List Value).toArray s = true := hta_of hts
  have hinX9 : ∀ w ∈ wsX90, w ∈ wsX9_taken := hin_of in_X9
  intro vJ120_0 H locs ls hP hD hS hl h
  unfold J_X9_taken_120 at h
  refine lv_istore_n (lv' := [(3, .int vJ120_0), (0, .ref h_t), (1, .int p0)]) hx hb dX9_taken_120 rfl hl (by decide) rfl (fun ls hl => ?_)
  refine lv_iload_n hx hb dX9_taken_121 rfl (lv_at hl 0 rfl) ?_
  refine lv_if_eq (tgt := 134) hx hb dX9_taken_122 (by decide) (fun c11 => ?_) (fun c11 => ?_)
  · have h := it_p h c11
    refine lv_bipush (v := (-12 : Int32)) hx hb dX9_taken_134 (by decide) ?_
    have h9 := Option.some.inj h
    have e9 : (-12 : Int32) = r0 := congrArg (fun z9 => z9) h9
    rw [← e9]
    exact k_iret hx hb hr hlocks hP hS rfl dX9_taken_136
  have h := it_n h c11
  refine lv_aload_n hx hb dX9_taken_125 rfl (lv_at hl 1 rfl) ?_
  refine va_get (D := G) (ci := 8) (v := .ref h_t_heldLeaves) (C := RX9) (T := TX9) (N := 42) hx hb hts hinX9 hown hK hP 0 rfl rfl 38 (by decide) (hta _ mw_629) (fun _ h9 => h9) rfl dX9_taken_126 ?_
  refine lv_iload_n hx hb dX9_taken_129 rfl (lv_at hl 2 rfl) ?_
  obtain ⟨hn12, h⟩ := ck_e h
  refine va_iald hx hb hK hP 3 0 rfl rfl hn12 dX9_taken_130 ?_
  refine lv_goto (tgt := 136) hx hb dX9_taken_131 (by decide) ?_
  have h9 := Option.some.inj h
  have e9 : (a_t_heldLeaves p0.toNatClampNeg) = r0 := congrArg (fun z9 => z9) h9
  rw [← e9]
  exact k_iret hx hb hr hlocks hP hS rfl dX9_taken_136
set_option maxHeartbeats 4000000 in
set_option maxRecDepth 100000 in
theorem c_X9_taken (l : Launch) (G : va_G) (cI cJ cD cH : ClassId) (sz : Nat) (h_t : Nat) (h_t_held : Nat) (h_t_sizes : Nat) (h_t_heldLeaves : Nat) (h_t_numbers : Nat) (h_t_powers : Nat) (h_t_tree : Nat) (h_t_ahead : Nat) (h_t_behind : Nat) (h_t_before : Nat) (h_t_rows : Nat) (h_t_met : Nat) (h_t_metSizes : Nat) (h_t_chosen : Nat) (h_t_tape : Nat) (h_t_toldPowers : Nat) (h_t_powerPlaces : Nat) (h_t_toldTree : Nat) (h_t_splitPlaces : Nat) (h_t_layers : Nat) (h_t_paper : Nat) (h_t_items : Nat) (h_t_kept : Nat) (t_genus : Int32) (t_marks : Int32) (t_leaves : Int32) (t_splits : Int32) (t_done : Int32) (t_undone : Int32) (t_metMany : Int32) (t_treesSeen : Int32) (t_taped : Int32) (t_place : Int32) (t_isWrong : Int32) (t_toldGenus : Int32) (t_toldMarks : Int32) (t_isTree : Int32) (t_toldLeaves : Int32) (t_leavesPlace : Int32) (t_toldSplits : Int32) (t_isWhy : Int32) (t_papered : Int32) (t_isKept : Int32) (a_t_held : Nat → Int32) (a_t_sizes : Nat → Int32) (a_t_heldLeaves : Nat → Int32) (a_t_numbers : Nat → Int64) (p0 : Int32) (p1 : Int32) (r0 : Int32) (hF : F_X9_taken a_t_held a_t_sizes a_t_heldLeaves a_t_numbers p0 p1 = some r0) : Met l yX9_taken wsX9_taken ({ frames := 2, cells := 0, slots := 0, locals := 45 }) (k_pre G (k_T cI cJ cD cH) [(h_t, .inr (8, [.int t_genus, .int t_marks, .ref h_t_powers, .int t_leaves, .int t_splits, .ref h_t_tree, .ref h_t_ahead, .ref h_t_behind, .ref h_t_before, .int t_done, .int t_undone, .ref h_t_rows, .ref h_t_met, .ref h_t_metSizes, .int t_metMany, .int t_treesSeen, .ref h_t_chosen, .ref h_t_tape, .int t_taped, .int t_place, .int t_isWrong, .int t_toldGenus, .int t_toldMarks, .ref h_t_toldPowers, .ref h_t_powerPlaces, .int t_isTree, .int t_toldLeaves, .int t_leavesPlace, .int t_toldSplits, .ref h_t_toldTree, .ref h_t_splitPlaces, .ref h_t_layers, .int t_isWhy, .ref h_t_paper, .int t_papered, .ref h_t_held, .ref h_t_numbers, .ref h_t_sizes, .ref h_t_heldLeaves, .ref h_t_items, .ref h_t_kept, .int t_isKept])), (h_t_held, .inl (cI, 6, .inl a_t_held)), (h_t_sizes, .inl (cI, 6, .inl a_t_sizes)), (h_t_heldLeaves, .inl (cI, 6, .inl a_t_heldLeaves)), (h_t_numbers, .inl (cJ, 6, .inr (.inl a_t_numbers)))] sz [.ref h_t, .int p0, .int p1]) (va_Qi (fun r (_ : Unit) => r = r0 ∧ True) (fun _ t => va_P G vwCl [(h_t, .inr (8, [.int t_genus, .int t_marks, .ref h_t_powers, .int t_leaves, .int t_splits, .ref h_t_tree, .ref h_t_ahead, .ref h_t_behind, .ref h_t_before, .int t_done, .int t_undone, .ref h_t_rows, .ref h_t_met, .ref h_t_metSizes, .int t_metMany, .int t_treesSeen, .ref h_t_chosen, .ref h_t_tape, .int t_taped, .int t_place, .int t_isWrong, .int t_toldGenus, .int t_toldMarks, .ref h_t_toldPowers, .ref h_t_powerPlaces, .int t_isTree, .int t_toldLeaves, .int t_leavesPlace, .int t_toldSplits, .ref h_t_toldTree, .ref h_t_splitPlaces, .ref h_t_layers, .int t_isWhy, .ref h_t_paper, .int t_papered, .ref h_t_held, .ref h_t_numbers, .ref h_t_sizes, .ref h_t_heldLeaves, .ref h_t_items, .ref h_t_kept, .int t_isKept])), (h_t_held, .inl (cI, 6, .inl a_t_held)), (h_t_sizes, .inl (cI, 6, .inl a_t_sizes)), (h_t_heldLeaves, .inl (cI, 6, .inl a_t_heldLeaves)), (h_t_numbers, .inl (cJ, 6, .inr (.inl a_t_numbers)))] t.heap) (va_A [(h_t, .inr (8, [.int t_genus, .int t_marks, .ref h_t_powers, .int t_leaves, .int t_splits, .ref h_t_tree, .ref h_t_ahead, .ref h_t_behind, .ref h_t_before, .int t_done, .int t_undone, .ref h_t_rows, .ref h_t_met, .ref h_t_metSizes, .int t_metMany, .int t_treesSeen, .ref h_t_chosen, .ref h_t_tape, .int t_taped, .int t_place, .int t_isWrong, .int t_toldGenus, .int t_toldMarks, .ref h_t_toldPowers, .ref h_t_powerPlaces, .int t_isTree, .int t_toldLeaves, .int t_leavesPlace, .int t_toldSplits, .ref h_t_toldTree, .ref h_t_splitPlaces, .ref h_t_layers, .int t_isWhy, .ref h_t_paper, .int t_papered, .ref h_t_held, .ref h_t_numbers, .ref h_t_sizes, .ref h_t_heldLeaves, .ref h_t_items, .ref h_t_kept, .int t_isKept])), (h_t_held, .inl (cI, 6, .inl a_t_held)), (h_t_sizes, .inl (cI, 6, .inl a_t_sizes)), (h_t_heldLeaves, .inl (cI, 6, .inl a_t_heldLeaves)), (h_t_numbers, .inl (cJ, 6, .inr (.inl a_t_numbers)))] sz)) 0 0 (va_A [(h_t, .inr (8, [.int t_genus, .int t_marks, .ref h_t_powers, .int t_leaves, .int t_splits, .ref h_t_tree, .ref h_t_ahead, .ref h_t_behind, .ref h_t_before, .int t_done, .int t_undone, .ref h_t_rows, .ref h_t_met, .ref h_t_metSizes, .int t_metMany, .int t_treesSeen, .ref h_t_chosen, .ref h_t_tape, .int t_taped, .int t_place, .int t_isWrong, .int t_toldGenus, .int t_toldMarks, .ref h_t_toldPowers, .ref h_t_powerPlaces, .int t_isTree, .int t_toldLeaves, .int t_leavesPlace, .int t_toldSplits, .ref h_t_toldTree, .ref h_t_splitPlaces, .ref h_t_layers, .int t_isWhy, .ref h_t_paper, .int t_papered, .ref h_t_held, .ref h_t_numbers, .ref h_t_sizes, .ref h_t_heldLeaves, .ref h_t_items, .ref h_t_kept, .int t_isKept])), (h_t_held, .inl (cI, 6, .inl a_t_held)), (h_t_sizes, .inl (cI, 6, .inl a_t_sizes)), (h_t_heldLeaves, .inl (cI, 6, .inl a_t_heldLeaves)), (h_t_numbers, .inl (cJ, 6, .inr (.inl a_t_numbers)))] sz) := by
  refine Met.ofW (cc := cX9_taken) (maxL := 4) (ret := (some .int)) (by decide) rfl ?_
  intro p e s m args below meth c s₁ B hml hv
  obtain ⟨rfl, hsz, hP, hK, hD0⟩ := hv
  have hx := B.exec
  have hb := B.bytes
  have hr := B.returns
  have hts := atoms_spec (ws := wsX9_taken) B.pre
  have hta : ∀ w ∈ wA, w.before ([.ref h_t, .int p0, .int p1] : List Value).toArray s = true := hta_of hts
  have hown : s.vm.findClass RX9 = some m.cls := findClass_of_methodNamed B.named
  have hlocks := B.notSynchronized
  subst hsz
  have hD := hD0.self (sz := s.heap.size)
  generalize hAe : va_A [(h_t, .inr (8, [.int t_genus, .int t_marks, .ref h_t_powers, .int t_leaves, .int t_splits, .ref h_t_tree, .ref h_t_ahead, .ref h_t_behind, .ref h_t_before, .int t_done, .int t_undone, .ref h_t_rows, .ref h_t_met, .ref h_t_metSizes, .int t_metMany, .int t_treesSeen, .ref h_t_chosen, .ref h_t_tape, .int t_taped, .int t_place, .int t_isWrong, .int t_toldGenus, .int t_toldMarks, .ref h_t_toldPowers, .ref h_t_powerPlaces, .int t_isTree, .int t_toldLeaves, .int t_leavesPlace, .int t_toldSplits, .ref h_t_toldTree, .ref h_t_splitPlaces, .ref h_t_layers, .int t_isWhy, .ref h_t_paper, .int t_papered, .ref h_t_held, .ref h_t_numbers, .ref h_t_sizes, .ref h_t_heldLeaves, .ref h_t_items, .ref h_t_kept, .int t_isKept])), (h_t_held, .inl (cI, 6, .inl a_t_held)), (h_t_sizes, .inl (cI, 6, .inl a_t_sizes)), (h_t_heldLeaves, .inl (cI, 6, .inl a_t_heldLeaves)), (h_t_numbers, .inl (cJ, 6, .inr (.inl a_t_numbers)))] s.heap.size = A at hD ⊢
  have hA : ∀ q : Nat, s.heap.size ≤ q → A q := fun q h => by rw [← hAe]; exact Or.inr h
  have hS : va_S A s.heap s.heap [] := va_S.rf
  have hl := lv_entry ([.ref h_t, .int p0, .int p1]) (n := 4) (Nat.le_of_ble_eq_true rfl)
  rw [lg_entry_eq]
  generalize (lg_sl ([.ref h_t, .int p0, .int p1]) ++ List.replicate (4 - (lg_sl ([.ref h_t, .int p0, .int p1])).length) Slot.unset).toArray = ls at hl ⊢
  have hl : lv_has ls 4 [(0, .ref h_t), (1, .int p0), (2, .int p1)] := hl
  have hinX9 : ∀ w ∈ wsX90, w ∈ wsX9_taken := hin_of in_X9
  have h := hF
  unfold F_X9_taken at h
  refine lv_iload_n hx hb dX9_taken_0 rfl (lv_at hl 1 rfl) ?_
  obtain ⟨x1, hx1, h⟩ := bd_e h
  try dsimp only at h
  refine k_SiU (n := 1) (As := [.int p0]) (rest := []) hx hb hml hown hts (c_X9_isHolder l G cI cJ cD cH s.heap.size p0 x1 hx1) gX9_taken_X9_isHolder rfl rfl rfl (by decide +kernel) ⟨by first | exact Nat.le_of_ble_eq_true rfl | (simp only [headSpec]; omega), by first | exact Nat.le_of_ble_eq_true rfl | (simp only [headSpec]; omega)⟩ hK hP hD hS hA [] (by decide) rfl rfl rfl hl.1 (Nat.le_of_ble_eq_true rfl) dX9_taken_1 ⟨Nat.zero_le _, Nat.zero_le _⟩ (fun hp1 H locs hP hS => ?_)
  refine lv_if_eq (tgt := 19) hx hb dX9_taken_4 (by decide) (fun c2 => ?_) (fun c2 => ?_)
  · have h := it_p h c2
    refine lv_iconst (v := (-1 : Int32)) hx hb dX9_taken_19 (by decide) ?_
    have h9 := Option.some.inj h
    have e9 : (-1 : Int32) = r0 := congrArg (fun z9 => z9) h9
    rw [← e9]
    exact k_iret hx hb hr hlocks hP hS rfl dX9_taken_20
  have h := it_n h c2
  refine lv_iload_n hx hb dX9_taken_7 rfl (lv_at hl 2 rfl) ?_
  refine lv_i2l (v := p1.toInt64) hx hb dX9_taken_8 (by first | rfl | decide) ?_
  refine lv_lconst (v := (0 : Int64)) hx hb dX9_taken_9 (by decide) ?_
  refine lv_ldc2 (v := (3 : Int64)) hx hb hown (hta _ mw_676) dX9_taken_10 ?_
  obtain ⟨x3, hx3, h⟩ := bd_e h
  try dsimp only at h
  refine k_SiU (n := 3) (As := [.long p1.toInt64, .long (0 : Int64), .long (3 : Int64)]) (rest := []) hx hb hml hown hts (c_X9_in l G cI cJ cD cH H.size p1.toInt64 (0 : Int64) (3 : Int64) x3 hx3) gX9_taken_X9_in rfl rfl rfl (by decide +kernel) ⟨by first | exact Nat.le_of_ble_eq_true rfl | (simp only [headSpec]; omega), by first | exact Nat.le_of_ble_eq_true rfl | (simp only [headSpec]; omega)⟩ hK hP hD hS hA [] (by decide) rfl rfl rfl hl.1 (Nat.le_of_ble_eq_true rfl) dX9_taken_13 ⟨Nat.zero_le _, Nat.zero_le _⟩ (fun hp3 H locs hP hS => ?_)
  refine lv_if_ne (tgt := 21) hx hb dX9_taken_16 (by decide) (fun c4 => ?_) (fun c4 => ?_)
  rotate_left
  · have h := it_p h c4
    refine lv_iconst (v := (-1 : Int32)) hx hb dX9_taken_19 (by decide) ?_
    have h9 := Option.some.inj h
    have e9 : (-1 : Int32) = r0 := congrArg (fun z9 => z9) h9
    rw [← e9]
    exact k_iret hx hb hr hlocks hP hS rfl dX9_taken_20
  have h := it_n h c4
  refine lv_aload_n hx hb dX9_taken_21 rfl (lv_at hl 0 rfl) ?_
  refine va_get (D := G) (ci := 8) (v := .ref h_t_held) (C := RX9) (T := TX9) (N := 42) hx hb hts hinX9 hown hK hP 0 rfl rfl 35 (by decide) (hta _ mw_626) (fun _ h9 => h9) rfl dX9_taken_22 ?_
  refine lv_iload_n hx hb dX9_taken_25 rfl (lv_at hl 1 rfl) ?_
  obtain ⟨hn5, h⟩ := ck_e h
  refine va_iald hx hb hK hP 1 0 rfl rfl hn5 dX9_taken_26 ?_
  refine lv_if_ne (tgt := 33) hx hb dX9_taken_27 (by decide) (fun c6 => ?_) (fun c6 => ?_)
  rotate_left
  · have h := it_p h c6
    refine lv_bipush (v := (-11 : Int32)) hx hb dX9_taken_30 (by decide) ?_
    have h9 := Option.some.inj h
    have e9 : (-11 : Int32) = r0 := congrArg (fun z9 => z9) h9
    rw [← e9]
    exact k_iret hx hb hr hlocks hP hS rfl dX9_taken_32
  have h := it_n h c6
  refine lv_iload_n hx hb dX9_taken_33 rfl (lv_at hl 2 rfl) ?_
  refine lv_if_ne (tgt := 60) hx hb dX9_taken_34 (by decide) (fun c7 => ?_) (fun c7 => ?_)
  rotate_left
  · have h := it_p h c7
    refine lv_aload_n hx hb dX9_taken_37 rfl (lv_at hl 0 rfl) ?_
    refine va_get (D := G) (ci := 8) (v := .ref h_t_held) (C := RX9) (T := TX9) (N := 42) hx hb hts hinX9 hown hK hP 0 rfl rfl 35 (by decide) (hta _ mw_626) (fun _ h9 => h9) rfl dX9_taken_38 ?_
    refine lv_iload_n hx hb dX9_taken_41 rfl (lv_at hl 1 rfl) ?_
    obtain ⟨hn20, h⟩ := ck_e h
    refine va_iald hx hb hK hP 1 0 rfl rfl hn20 dX9_taken_42 ?_
    refine lv_iconst (v := (1 : Int32)) hx hb dX9_taken_43 (by decide) ?_
    refine lv_icmp_ne (tgt := 57) hx hb dX9_taken_44 (by decide) (fun c21 => ?_) (fun c21 => ?_)
    · have h := it_n h c21
      refine lv_bipush (v := (-12 : Int32)) hx hb dX9_taken_57 (by decide) ?_
      have h9 := Option.some.inj h
      have e9 : (-12 : Int32) = r0 := congrArg (fun z9 => z9) h9
      rw [← e9]
      exact k_iret hx hb hr hlocks hP hS rfl dX9_taken_59
    have h := it_p h c21
    refine lv_aload_n hx hb dX9_taken_47 rfl (lv_at hl 0 rfl) ?_
    refine va_get (D := G) (ci := 8) (v := .ref h_t_numbers) (C := RX9) (T := TX9) (N := 42) hx hb hts hinX9 hown hK hP 0 rfl rfl 36 (by decide) (hta _ mw_627) (fun _ h9 => h9) rfl dX9_taken_48 ?_
    refine lv_iload_n hx hb dX9_taken_51 rfl (lv_at hl 1 rfl) ?_
    obtain ⟨hn22, h⟩ := ck_e h
    refine va_lald hx hb hK hP 4 1 rfl rfl hn22 dX9_taken_52 ?_
    refine lv_l2i (v := (a_t_numbers p0.toNatClampNeg).toInt32) hx hb dX9_taken_53 rfl ?_
    refine lv_goto (tgt := 59) hx hb dX9_taken_54 (by decide) ?_
    have h9 := Option.some.inj h
    have e9 : (a_t_numbers p0.toNatClampNeg).toInt32 = r0 := congrArg (fun z9 => z9) h9
    rw [← e9]
    exact k_iret hx hb hr hlocks hP hS rfl dX9_taken_59
  have h := it_n h c7
  refine lv_aload_n hx hb dX9_taken_60 rfl (lv_at hl 0 rfl) ?_
  refine va_get (D := G) (ci := 8) (v := .ref h_t_held) (C := RX9) (T := TX9) (N := 42) hx hb hts hinX9 hown hK hP 0 rfl rfl 35 (by decide) (hta _ mw_626) (fun _ h9 => h9) rfl dX9_taken_61 ?_
  refine lv_iload_n hx hb dX9_taken_64 rfl (lv_at hl 1 rfl) ?_
  obtain ⟨hn8, h⟩ := ck_e h
  refine va_iald hx hb hK hP 1 0 rfl rfl hn8 dX9_taken_65 ?_
  refine lv_iconst (v := (2 : Int32)) hx hb dX9_taken_66 (by decide) ?_
  refine lv_icmp_eq (tgt := 73) hx hb dX9_taken_67 (by decide) (fun c9 => ?_) (fun c9 => ?_)
  rotate_left
  · have h := it_n h c9
    refine lv_bipush (v := (-12 : Int32)) hx hb dX9_taken_70 (by decide) ?_
    have h9 := Option.some.inj h
    have e9 : (-12 : Int32) = r0 := congrArg (fun z9 => z9) h9
    rw [← e9]
    exact k_iret hx hb hr hlocks hP hS rfl dX9_taken_72
  have h := it_p h c9
  refine lv_iload_n hx hb dX9_taken_73 rfl (lv_at hl 2 rfl) ?_
  refine lv_iconst (v := (1 : Int32)) hx hb dX9_taken_74 (by decide) ?_
  refine lv_icmp_ne (tgt := 85) hx hb dX9_taken_75 (by decide) (fun c10 => ?_) (fun c10 => ?_)
  rotate_left
  · have h := it_p h c10
    refine lv_aload_n hx hb dX9_taken_78 rfl (lv_at hl 0 rfl) ?_
    refine va_get (D := G) (ci := 8) (v := .ref h_t_sizes) (C := RX9) (T := TX9) (N := 42) hx hb hts hinX9 hown hK hP 0 rfl rfl 37 (by decide) (hta _ mw_628) (fun _ h9 => h9) rfl dX9_taken_79 ?_
    refine lv_iload_n hx hb dX9_taken_82 rfl (lv_at hl 1 rfl) ?_
    obtain ⟨hn19, h⟩ := ck_e h
    refine va_iald hx hb hK hP 2 0 rfl rfl hn19 dX9_taken_83 ?_
    have h9 := Option.some.inj h
    have e9 : (a_t_sizes p0.toNatClampNeg) = r0 := congrArg (fun z9 => z9) h9
    rw [← e9]
    exact k_iret hx hb hr hlocks hP hS rfl dX9_taken_84
  have h := it_n h c10
  refine lv_iload_n hx hb dX9_taken_85 rfl (lv_at hl 2 rfl) ?_
  refine lv_iconst (v := (2 : Int32)) hx hb dX9_taken_86 (by decide) ?_
  refine lv_icmp_ne (tgt := 98) hx hb dX9_taken_87 (by decide) (fun c13 => ?_) (fun c13 => ?_)
  rotate_left
  · have h := it_p h c13
    refine lv_aload_n hx hb dX9_taken_90 rfl (lv_at hl 0 rfl) ?_
    refine lv_iload_n hx hb dX9_taken_91 rfl (lv_at hl 1 rfl) ?_
    obtain ⟨x18, hx18, h⟩ := bd_e h
    try dsimp only at h
    refine k_ViU (n := 1) (As := [.int p0]) (rest := []) hx hb hml hown hts (c_X9_isFull l G cI cJ cD cH H.size h_t h_t_sizes h_t_heldLeaves h_t_powers h_t_tree h_t_ahead h_t_behind h_t_before h_t_rows h_t_met h_t_metSizes h_t_chosen h_t_tape h_t_toldPowers h_t_powerPlaces h_t_toldTree h_t_splitPlaces h_t_layers h_t_paper h_t_held h_t_numbers h_t_items h_t_kept t_genus t_marks t_leaves t_splits t_done t_undone t_metMany t_treesSeen t_taped t_place t_isWrong t_toldGenus t_toldMarks t_isTree t_toldLeaves t_leavesPlace t_toldSplits t_isWhy t_papered t_isKept a_t_sizes a_t_heldLeaves p0 x18 hx18) gX9_taken_X9_isFull rfl rfl rfl (by decide +kernel) ⟨by first | exact Nat.le_of_ble_eq_true rfl | (simp only [headSpec]; omega), by first | exact Nat.le_of_ble_eq_true rfl | (simp only [headSpec]; omega)⟩ hK hP hD hS hA [0, 2, 3] (by decide) rfl (ci := 8) rfl rfl rfl rfl rfl hl.1 (Nat.le_of_ble_eq_true rfl) dX9_taken_92 ⟨Nat.zero_le _, Nat.zero_le _⟩ (fun hp18 H locs hP hS => ?_)
    refine lv_goto (tgt := 120) hx hb dX9_taken_95 (by decide) ?_
    exact tJ_X9_taken_120 hx hb hr hml hts hown hlocks hK hA x18 _ _ _ hP hD hS (lv_sub hl [0, 1] rfl) h
  have h := it_n h c13
  refine lv_aload_n hx hb dX9_taken_98 rfl (lv_at hl 0 rfl) ?_
  refine lv_iload_n hx hb dX9_taken_99 rfl (lv_at hl 1 rfl) ?_
  obtain ⟨x14, hx14, h⟩ := bd_e h
  try dsimp only at h
  refine k_ViU (n := 1) (As := [.int p0]) (rest := []) hx hb hml hown hts (c_X9_isFull l G cI cJ cD cH H.size h_t h_t_sizes h_t_heldLeaves h_t_powers h_t_tree h_t_ahead h_t_behind h_t_before h_t_rows h_t_met h_t_metSizes h_t_chosen h_t_tape h_t_toldPowers h_t_powerPlaces h_t_toldTree h_t_splitPlaces h_t_layers h_t_paper h_t_held h_t_numbers h_t_items h_t_kept t_genus t_marks t_leaves t_splits t_done t_undone t_metMany t_treesSeen t_taped t_place t_isWrong t_toldGenus t_toldMarks t_isTree t_toldLeaves t_leavesPlace t_toldSplits t_isWhy t_papered t_isKept a_t_sizes a_t_heldLeaves p0 x14 hx14) gX9_taken_X9_isFull rfl rfl rfl (by decide +kernel) ⟨by first | exact Nat.le_of_ble_eq_true rfl | (simp only [headSpec]; omega), by first | exact Nat.le_of_ble_eq_true rfl | (simp only [headSpec]; omega)⟩ hK hP hD hS hA [0, 2, 3] (by decide) rfl (ci := 8) rfl rfl rfl rfl rfl hl.1 (Nat.le_of_ble_eq_true rfl) dX9_taken_100 ⟨Nat.zero_le _, Nat.zero_le _⟩ (fun hp14 H locs hP hS => ?_)
  have hJ_X9_taken_119 : ∀ (H : Heap) (locs : List Loc) (ls : Array Slot), va_P G vwCl [(h_t, .inr (8, [.int t_genus, .int t_marks, .ref h_t_powers, .int t_leaves, .int t_splits, .ref h_t_tree, .ref h_t_ahead, .ref h_t_behind, .ref h_t_before, .int t_done, .int t_undone, .ref h_t_rows, .ref h_t_met, .ref h_t_metSizes, .int t_metMany, .int t_treesSeen, .ref h_t_chosen, .ref h_t_tape, .int t_taped, .int t_place, .int t_isWrong, .int t_toldGenus, .int t_toldMarks, .ref h_t_toldPowers, .ref h_t_powerPlaces, .int t_isTree, .int t_toldLeaves, .int t_leavesPlace, .int t_toldSplits, .ref h_t_toldTree, .ref h_t_splitPlaces, .ref h_t_layers, .int t_isWhy, .ref h_t_paper, .int t_papered, .ref h_t_held, .ref h_t_numbers, .ref h_t_sizes, .ref h_t_heldLeaves, .ref h_t_items, .ref h_t_kept, .int t_isKept])), (h_t_held, .inl (cI, 6, .inl a_t_held)), (h_t_sizes, .inl (cI, 6, .inl a_t_sizes)), (h_t_heldLeaves, .inl (cI, 6, .inl a_t_heldLeaves)), (h_t_numbers, .inl (cJ, 6, .inr (.inl a_t_numbers)))] H → va_D A [(h_t, .inr (8, [.int t_genus, .int t_marks, .ref h_t_powers, .int t_leaves, .int t_splits, .ref h_t_tree, .ref h_t_ahead, .ref h_t_behind, .ref h_t_before, .int t_done, .int t_undone, .ref h_t_rows, .ref h_t_met, .ref h_t_metSizes, .int t_metMany, .int t_treesSeen, .ref h_t_chosen, .ref h_t_tape, .int t_taped, .int t_place, .int t_isWrong, .int t_toldGenus, .int t_toldMarks, .ref h_t_toldPowers, .ref h_t_powerPlaces, .int t_isTree, .int t_toldLeaves, .int t_leavesPlace, .int t_toldSplits, .ref h_t_toldTree, .ref h_t_splitPlaces, .ref h_t_layers, .int t_isWhy, .ref h_t_paper, .int t_papered, .ref h_t_held, .ref h_t_numbers, .ref h_t_sizes, .ref h_t_heldLeaves, .ref h_t_items, .ref h_t_kept, .int t_isKept])), (h_t_held, .inl (cI, 6, .inl a_t_held)), (h_t_sizes, .inl (cI, 6, .inl a_t_sizes)), (h_t_heldLeaves, .inl (cI, 6, .inl a_t_heldLeaves)), (h_t_numbers, .inl (cJ, 6, .inr (.inl a_t_numbers)))] → va_S A s.heap H locs → lv_has ls 4 [(0, .ref h_t), (1, .int p0)] → J_X9_taken_119 a_t_heldLeaves p0 = some r0 → W p l e (headSpec wsX9_taken ({ frames := 2, cells := 0, slots := 0, locals := 45 })).room s m ([.ref h_t, .int p0, .int p1] : List Value).toArray below meth c H locs 0 0 (MQ below (va_Qi (fun r (_ : Unit) => r = r0 ∧ True) (fun _ t => va_P G vwCl [(h_t, .inr (8, [.int t_genus, .int t_marks, .ref h_t_powers, .int t_leaves, .int t_splits, .ref h_t_tree, .ref h_t_ahead, .ref h_t_behind, .ref h_t_before, .int t_done, .int t_undone, .ref h_t_rows, .ref h_t_met, .ref h_t_metSizes, .int t_metMany, .int t_treesSeen, .ref h_t_chosen, .ref h_t_tape, .int t_taped, .int t_place, .int t_isWrong, .int t_toldGenus, .int t_toldMarks, .ref h_t_toldPowers, .ref h_t_powerPlaces, .int t_isTree, .int t_toldLeaves, .int t_leavesPlace, .int t_toldSplits, .ref h_t_toldTree, .ref h_t_splitPlaces, .ref h_t_layers, .int t_isWhy, .ref h_t_paper, .int t_papered, .ref h_t_held, .ref h_t_numbers, .ref h_t_sizes, .ref h_t_heldLeaves, .ref h_t_items, .ref h_t_kept, .int t_isKept])), (h_t_held, .inl (cI, 6, .inl a_t_held)), (h_t_sizes, .inl (cI, 6, .inl a_t_sizes)), (h_t_heldLeaves, .inl (cI, 6, .inl a_t_heldLeaves)), (h_t_numbers, .inl (cJ, 6, .inr (.inl a_t_numbers)))] t.heap) A) ([.ref h_t, .int p0, .int p1] : List Value).toArray s 0 0 A) (F0 m 119 ls []) := by
    intro  H locs ls hP hD hS hl h
    unfold J_X9_taken_119 at h
    refine lv_iconst (v := (0 : Int32)) hx hb dX9_taken_119 (by decide) ?_
    exact tJ_X9_taken_120 hx hb hr hml hts hown hlocks hK hA (0 : Int32) _ _ _ hP hD hS (lv_sub hl [0, 1] rfl) h
  refine lv_if_ne (tgt := 119) hx hb dX9_taken_103 (by decide) (fun c15 => ?_) (fun c15 => ?_)
  · have h := it_n h c15
    exact hJ_X9_taken_119  _ _ _ hP hD hS (lv_sub hl [0, 1] rfl) h
  have h := it_p h c15
  refine lv_aload_n hx hb dX9_taken_106 rfl (lv_at hl 0 rfl) ?_
  refine va_get (D := G) (ci := 8) (v := .ref h_t_sizes) (C := RX9) (T := TX9) (N := 42) hx hb hts hinX9 hown hK hP 0 rfl rfl 37 (by decide) (hta _ mw_628) (fun _ h9 => h9) rfl dX9_taken_107 ?_
  refine lv_iload_n hx hb dX9_taken_110 rfl (lv_at hl 1 rfl) ?_
  obtain ⟨hn16, h⟩ := ck_e h
  refine va_iald hx hb hK hP 2 0 rfl rfl hn16 dX9_taken_111 ?_
  refine lv_if_ne (tgt := 119) hx hb dX9_taken_112 (by decide) (fun c17 => ?_) (fun c17 => ?_)
  · have h := it_n h c17
    exact hJ_X9_taken_119  _ _ _ hP hD hS (lv_sub hl [0, 1] rfl) h
  have h := it_p h c17
  refine lv_iconst (v := (1 : Int32)) hx hb dX9_taken_115 (by decide) ?_
  refine lv_goto (tgt := 120) hx hb dX9_taken_116 (by decide) ?_
  exact tJ_X9_taken_120 hx hb hr hml hts hown hlocks hK hA (1 : Int32) _ _ _ hP hD hS (lv_sub hl [0, 1] rfl) h

/-! X9_common_ -/
set_option maxHeartbeats 4000000 in
set_option maxRecDepth 100000 in
theorem c_X9_common_ (l : Launch) (G : va_G) (cI cJ cD cH : ClassId) (sz : Nat) (h_t : Nat) (h_t_held : Nat) (h_t_heldLeaves : Nat) (h_t_sizes : Nat) (h_t_items : Nat) (h_t_tree : Nat) (h_t_powers : Nat) (h_t_ahead : Nat) (h_t_behind : Nat) (h_t_before : Nat) (h_t_rows : Nat) (h_t_met : Nat) (h_t_metSizes : Nat) (h_t_chosen : Nat) (h_t_tape : Nat) (h_t_toldPowers : Nat) (h_t_powerPlaces : Nat) (h_t_toldTree : Nat) (h_t_splitPlaces : Nat) (h_t_layers : Nat) (h_t_paper : Nat) (h_t_numbers : Nat) (h_t_kept : Nat) (t_genus : Int32) (t_marks : Int32) (t_leaves : Int32) (t_splits : Int32) (t_done : Int32) (t_undone : Int32) (t_metMany : Int32) (t_treesSeen : Int32) (t_taped : Int32) (t_place : Int32) (t_isWrong : Int32) (t_toldGenus : Int32) (t_toldMarks : Int32) (t_isTree : Int32) (t_toldLeaves : Int32) (t_leavesPlace : Int32) (t_toldSplits : Int32) (t_isWhy : Int32) (t_papered : Int32) (t_isKept : Int32) (a_t_held : Nat → Int32) (a_t_heldLeaves : Nat → Int32) (a_t_sizes : Nat → Int32) (a_t_items : Nat → Int32) (a_t_tree : Nat → Int32) (p0 : Int32) (r0 : Int32) (hF : F_X9_common_ t_leaves t_splits a_t_held a_t_heldLeaves a_t_sizes a_t_items a_t_tree p0 = some r0) : Met l yX9_common_ wsX9_common_ ({ frames := 2, cells := 0, slots := 0, locals := 45 }) (k_pre G (k_T cI cJ cD cH) [(h_t, .inr (8, [.int t_genus, .int t_marks, .ref h_t_powers, .int t_leaves, .int t_splits, .ref h_t_tree, .ref h_t_ahead, .ref h_t_behind, .ref h_t_before, .int t_done, .int t_undone, .ref h_t_rows, .ref h_t_met, .ref h_t_metSizes, .int t_metMany, .int t_treesSeen, .ref h_t_chosen, .ref h_t_tape, .int t_taped, .int t_place, .int t_isWrong, .int t_toldGenus, .int t_toldMarks, .ref h_t_toldPowers, .ref h_t_powerPlaces, .int t_isTree, .int t_toldLeaves, .int t_leavesPlace, .int t_toldSplits, .ref h_t_toldTree, .ref h_t_splitPlaces, .ref h_t_layers, .int t_isWhy, .ref h_t_paper, .int t_papered, .ref h_t_held, .ref h_t_numbers, .ref h_t_sizes, .ref h_t_heldLeaves, .ref h_t_items, .ref h_t_kept, .int t_isKept])), (h_t_held, .inl (cI, 6, .inl a_t_held)), (h_t_heldLeaves, .inl (cI, 6, .inl a_t_heldLeaves)), (h_t_sizes, .inl (cI, 6, .inl a_t_sizes)), (h_t_items, .inl (cI, 120, .inl a_t_items)), (h_t_tree, .inl (cI, 3, .inl a_t_tree))] sz [.ref h_t, .int p0]) (va_Qi (fun r (_ : Unit) => r = r0 ∧ True) (fun _ t => va_P G vwCl [(h_t, .inr (8, [.int t_genus, .int t_marks, .ref h_t_powers, .int t_leaves, .int t_splits, .ref h_t_tree, .ref h_t_ahead, .ref h_t_behind, .ref h_t_before, .int t_done, .int t_undone, .ref h_t_rows, .ref h_t_met, .ref h_t_metSizes, .int t_metMany, .int t_treesSeen, .ref h_t_chosen, .ref h_t_tape, .int t_taped, .int t_place, .int t_isWrong, .int t_toldGenus, .int t_toldMarks, .ref h_t_toldPowers, .ref h_t_powerPlaces, .int t_isTree, .int t_toldLeaves, .int t_leavesPlace, .int t_toldSplits, .ref h_t_toldTree, .ref h_t_splitPlaces, .ref h_t_layers, .int t_isWhy, .ref h_t_paper, .int t_papered, .ref h_t_held, .ref h_t_numbers, .ref h_t_sizes, .ref h_t_heldLeaves, .ref h_t_items, .ref h_t_kept, .int t_isKept])), (h_t_held, .inl (cI, 6, .inl a_t_held)), (h_t_heldLeaves, .inl (cI, 6, .inl a_t_heldLeaves)), (h_t_sizes, .inl (cI, 6, .inl a_t_sizes)), (h_t_items, .inl (cI, 120, .inl a_t_items)), (h_t_tree, .inl (cI, 3, .inl a_t_tree))] t.heap) (va_A [(h_t, .inr (8, [.int t_genus, .int t_marks, .ref h_t_powers, .int t_leaves, .int t_splits, .ref h_t_tree, .ref h_t_ahead, .ref h_t_behind, .ref h_t_before, .int t_done, .int t_undone, .ref h_t_rows, .ref h_t_met, .ref h_t_metSizes, .int t_metMany, .int t_treesSeen, .ref h_t_chosen, .ref h_t_tape, .int t_taped, .int t_place, .int t_isWrong, .int t_toldGenus, .int t_toldMarks, .ref h_t_toldPowers, .ref h_t_powerPlaces, .int t_isTree, .int t_toldLeaves, .int t_leavesPlace, .int t_toldSplits, .ref h_t_toldTree, .ref h_t_splitPlaces, .ref h_t_layers, .int t_isWhy, .ref h_t_paper, .int t_papered, .ref h_t_held, .ref h_t_numbers, .ref h_t_sizes, .ref h_t_heldLeaves, .ref h_t_items, .ref h_t_kept, .int t_isKept])), (h_t_held, .inl (cI, 6, .inl a_t_held)), (h_t_heldLeaves, .inl (cI, 6, .inl a_t_heldLeaves)), (h_t_sizes, .inl (cI, 6, .inl a_t_sizes)), (h_t_items, .inl (cI, 120, .inl a_t_items)), (h_t_tree, .inl (cI, 3, .inl a_t_tree))] sz)) 0 0 (va_A [(h_t, .inr (8, [.int t_genus, .int t_marks, .ref h_t_powers, .int t_leaves, .int t_splits, .ref h_t_tree, .ref h_t_ahead, .ref h_t_behind, .ref h_t_before, .int t_done, .int t_undone, .ref h_t_rows, .ref h_t_met, .ref h_t_metSizes, .int t_metMany, .int t_treesSeen, .ref h_t_chosen, .ref h_t_tape, .int t_taped, .int t_place, .int t_isWrong, .int t_toldGenus, .int t_toldMarks, .ref h_t_toldPowers, .ref h_t_powerPlaces, .int t_isTree, .int t_toldLeaves, .int t_leavesPlace, .int t_toldSplits, .ref h_t_toldTree, .ref h_t_splitPlaces, .ref h_t_layers, .int t_isWhy, .ref h_t_paper, .int t_papered, .ref h_t_held, .ref h_t_numbers, .ref h_t_sizes, .ref h_t_heldLeaves, .ref h_t_items, .ref h_t_kept, .int t_isKept])), (h_t_held, .inl (cI, 6, .inl a_t_held)), (h_t_heldLeaves, .inl (cI, 6, .inl a_t_heldLeaves)), (h_t_sizes, .inl (cI, 6, .inl a_t_sizes)), (h_t_items, .inl (cI, 120, .inl a_t_items)), (h_t_tree, .inl (cI, 3, .inl a_t_tree))] sz) := by
  refine Met.ofW (cc := cX9_common_) (maxL := 4) (ret := (some .int)) (by decide) rfl ?_
  intro p e s m args below meth c s₁ B hml hv
  obtain ⟨rfl, hsz, hP, hK, hD0⟩ := hv
  have hx := B.exec
  have hb := B.bytes
  have hr := B.returns
  have hts := atoms_spec (ws := wsX9_common_) B.pre
  have hta : ∀ w ∈ wA, w.before ([.ref h_t, .int p0] : List Value).toArray s = true := hta_of hts
  have hown : s.vm.findClass RX9 = some m.cls := findClass_of_methodNamed B.named
  have hlocks := B.notSynchronized
  subst hsz
  have hD := hD0.self (sz := s.heap.size)
  generalize hAe : va_A [(h_t, .inr (8, [.int t_genus, .int t_marks, .ref h_t_powers, .int t_leaves, .int t_splits, .ref h_t_tree, .ref h_t_ahead, .ref h_t_behind, .ref h_t_before, .int t_done, .int t_undone, .ref h_t_rows, .ref h_t_met, .ref h_t_metSizes, .int t_metMany, .int t_treesSeen, .ref h_t_chosen, .ref h_t_tape, .int t_taped, .int t_place, .int t_isWrong, .int t_toldGenus, .int t_toldMarks, .ref h_t_toldPowers, .ref h_t_powerPlaces, .int t_isTree, .int t_toldLeaves, .int t_leavesPlace, .int t_toldSplits, .ref h_t_toldTree, .ref h_t_splitPlaces, .ref h_t_layers, .int t_isWhy, .ref h_t_paper, .int t_papered, .ref h_t_held, .ref h_t_numbers, .ref h_t_sizes, .ref h_t_heldLeaves, .ref h_t_items, .ref h_t_kept, .int t_isKept])), (h_t_held, .inl (cI, 6, .inl a_t_held)), (h_t_heldLeaves, .inl (cI, 6, .inl a_t_heldLeaves)), (h_t_sizes, .inl (cI, 6, .inl a_t_sizes)), (h_t_items, .inl (cI, 120, .inl a_t_items)), (h_t_tree, .inl (cI, 3, .inl a_t_tree))] s.heap.size = A at hD ⊢
  have hA : ∀ q : Nat, s.heap.size ≤ q → A q := fun q h => by rw [← hAe]; exact Or.inr h
  have hS : va_S A s.heap s.heap [] := va_S.rf
  have hl := lv_entry ([.ref h_t, .int p0]) (n := 4) (Nat.le_of_ble_eq_true rfl)
  rw [lg_entry_eq]
  generalize (lg_sl ([.ref h_t, .int p0]) ++ List.replicate (4 - (lg_sl ([.ref h_t, .int p0])).length) Slot.unset).toArray = ls at hl ⊢
  have hl : lv_has ls 4 [(0, .ref h_t), (1, .int p0)] := hl
  have hinX9 : ∀ w ∈ wsX90, w ∈ wsX9_common_ := hin_of in_X9
  have h := hF
  unfold F_X9_common_ at h
  refine lv_iload_n hx hb dX9_common__0 rfl (lv_at hl 1 rfl) ?_
  obtain ⟨x1, hx1, h⟩ := bd_e h
  try dsimp only at h
  refine k_SiU (n := 1) (As := [.int p0]) (rest := []) hx hb hml hown hts (c_X9_isHolder l G cI cJ cD cH s.heap.size p0 x1 hx1) gX9_common__X9_isHolder rfl rfl rfl (by decide +kernel) ⟨by first | exact Nat.le_of_ble_eq_true rfl | (simp only [headSpec]; omega), by first | exact Nat.le_of_ble_eq_true rfl | (simp only [headSpec]; omega)⟩ hK hP hD hS hA [] (by decide) rfl rfl rfl hl.1 (Nat.le_of_ble_eq_true rfl) dX9_common__1 ⟨Nat.zero_le _, Nat.zero_le _⟩ (fun hp1 H locs hP hS => ?_)
  refine lv_if_ne (tgt := 9) hx hb dX9_common__4 (by decide) (fun c2 => ?_) (fun c2 => ?_)
  rotate_left
  · have h := it_p h c2
    refine lv_iconst (v := (-1 : Int32)) hx hb dX9_common__7 (by decide) ?_
    have h9 := Option.some.inj h
    have e9 : (-1 : Int32) = r0 := congrArg (fun z9 => z9) h9
    rw [← e9]
    exact k_iret hx hb hr hlocks hP hS rfl dX9_common__8
  have h := it_n h c2
  refine lv_aload_n hx hb dX9_common__9 rfl (lv_at hl 0 rfl) ?_
  refine va_get (D := G) (ci := 8) (v := .ref h_t_held) (C := RX9) (T := TX9) (N := 42) hx hb hts hinX9 hown hK hP 0 rfl rfl 35 (by decide) (hta _ mw_626) (fun _ h9 => h9) rfl dX9_common__10 ?_
  refine lv_iload_n hx hb dX9_common__13 rfl (lv_at hl 1 rfl) ?_
  obtain ⟨hn3, h⟩ := ck_e h
  refine va_iald hx hb hK hP 1 0 rfl rfl hn3 dX9_common__14 ?_
  refine lv_iconst (v := (2 : Int32)) hx hb dX9_common__15 (by decide) ?_
  refine lv_icmp_eq (tgt := 36) hx hb dX9_common__16 (by decide) (fun c4 => ?_) (fun c4 => ?_)
  rotate_left
  · have h := it_n h c4
    refine lv_aload_n hx hb dX9_common__19 rfl (lv_at hl 0 rfl) ?_
    refine va_get (D := G) (ci := 8) (v := .ref h_t_held) (C := RX9) (T := TX9) (N := 42) hx hb hts hinX9 hown hK hP 0 rfl rfl 35 (by decide) (hta _ mw_626) (fun _ h9 => h9) rfl dX9_common__20 ?_
    refine lv_iload_n hx hb dX9_common__23 rfl (lv_at hl 1 rfl) ?_
    obtain ⟨hn12, h⟩ := ck_e h
    refine va_iald hx hb hK hP 1 0 rfl rfl hn12 dX9_common__24 ?_
    refine lv_if_ne (tgt := 33) hx hb dX9_common__25 (by decide) (fun c13 => ?_) (fun c13 => ?_)
    · have h := it_n h c13
      refine lv_bipush (v := (-12 : Int32)) hx hb dX9_common__33 (by decide) ?_
      have h9 := Option.some.inj h
      have e9 : (-12 : Int32) = r0 := congrArg (fun z9 => z9) h9
      rw [← e9]
      exact k_iret hx hb hr hlocks hP hS rfl dX9_common__35
    have h := it_p h c13
    refine lv_bipush (v := (-11 : Int32)) hx hb dX9_common__28 (by decide) ?_
    refine lv_goto (tgt := 35) hx hb dX9_common__30 (by decide) ?_
    have h9 := Option.some.inj h
    have e9 : (-11 : Int32) = r0 := congrArg (fun z9 => z9) h9
    rw [← e9]
    exact k_iret hx hb hr hlocks hP hS rfl dX9_common__35
  have h := it_p h c4
  refine lv_aload_n hx hb dX9_common__36 rfl (lv_at hl 0 rfl) ?_
  refine va_get (D := G) (ci := 8) (v := .ref h_t_heldLeaves) (C := RX9) (T := TX9) (N := 42) hx hb hts hinX9 hown hK hP 0 rfl rfl 38 (by decide) (hta _ mw_629) (fun _ h9 => h9) rfl dX9_common__37 ?_
  refine lv_iload_n hx hb dX9_common__40 rfl (lv_at hl 1 rfl) ?_
  obtain ⟨hn5, h⟩ := ck_e h
  refine va_iald hx hb hK hP 2 0 rfl rfl hn5 dX9_common__41 ?_
  refine lv_aload_n hx hb dX9_common__42 rfl (lv_at hl 0 rfl) ?_
  refine va_get (D := G) (ci := 8) (v := .int t_leaves) (C := RX9) (T := TX9) (N := 42) hx hb hts hinX9 hown hK hP 0 rfl rfl 3 (by decide) (hta _ mw_609) (fun _ h9 => h9) rfl dX9_common__43 ?_
  refine lv_icmp_eq (tgt := 52) hx hb dX9_common__46 (by decide) (fun c6 => ?_) (fun c6 => ?_)
  rotate_left
  · have h := it_n h c6
    refine lv_bipush (v := (-5 : Int32)) hx hb dX9_common__49 (by decide) ?_
    have h9 := Option.some.inj h
    have e9 : (-5 : Int32) = r0 := congrArg (fun z9 => z9) h9
    rw [← e9]
    exact k_iret hx hb hr hlocks hP hS rfl dX9_common__51
  have h := it_p h c6
  refine lv_iconst (v := (0 : Int32)) hx hb dX9_common__52 (by decide) ?_
  refine lv_istore_n (lv' := [(2, .int (0 : Int32)), (0, .ref h_t), (1, .int p0)]) hx hb dX9_common__53 rfl hl (by decide) rfl (fun ls hl => ?_)
  refine lv_iconst (v := (0 : Int32)) hx hb dX9_common__54 (by decide) ?_
  refine lv_istore_n (lv' := [(3, .int (0 : Int32)), (2, .int (0 : Int32)), (0, .ref h_t), (1, .int p0)]) hx hb dX9_common__55 rfl hl (by decide) rfl (fun ls hl => ?_)
  have hK_X9_common__56_98 : ∀  (vK56_98_0 : Int32) (H : Heap) (locs : List Loc) (ls : Array Slot), va_P G vwCl [(h_t, .inr (8, [.int t_genus, .int t_marks, .ref h_t_powers, .int t_leaves, .int t_splits, .ref h_t_tree, .ref h_t_ahead, .ref h_t_behind, .ref h_t_before, .int t_done, .int t_undone, .ref h_t_rows, .ref h_t_met, .ref h_t_metSizes, .int t_metMany, .int t_treesSeen, .ref h_t_chosen, .ref h_t_tape, .int t_taped, .int t_place, .int t_isWrong, .int t_toldGenus, .int t_toldMarks, .ref h_t_toldPowers, .ref h_t_powerPlaces, .int t_isTree, .int t_toldLeaves, .int t_leavesPlace, .int t_toldSplits, .ref h_t_toldTree, .ref h_t_splitPlaces, .ref h_t_layers, .int t_isWhy, .ref h_t_paper, .int t_papered, .ref h_t_held, .ref h_t_numbers, .ref h_t_sizes, .ref h_t_heldLeaves, .ref h_t_items, .ref h_t_kept, .int t_isKept])), (h_t_held, .inl (cI, 6, .inl a_t_held)), (h_t_heldLeaves, .inl (cI, 6, .inl a_t_heldLeaves)), (h_t_sizes, .inl (cI, 6, .inl a_t_sizes)), (h_t_items, .inl (cI, 120, .inl a_t_items)), (h_t_tree, .inl (cI, 3, .inl a_t_tree))] H → va_D A [(h_t, .inr (8, [.int t_genus, .int t_marks, .ref h_t_powers, .int t_leaves, .int t_splits, .ref h_t_tree, .ref h_t_ahead, .ref h_t_behind, .ref h_t_before, .int t_done, .int t_undone, .ref h_t_rows, .ref h_t_met, .ref h_t_metSizes, .int t_metMany, .int t_treesSeen, .ref h_t_chosen, .ref h_t_tape, .int t_taped, .int t_place, .int t_isWrong, .int t_toldGenus, .int t_toldMarks, .ref h_t_toldPowers, .ref h_t_powerPlaces, .int t_isTree, .int t_toldLeaves, .int t_leavesPlace, .int t_toldSplits, .ref h_t_toldTree, .ref h_t_splitPlaces, .ref h_t_layers, .int t_isWhy, .ref h_t_paper, .int t_papered, .ref h_t_held, .ref h_t_numbers, .ref h_t_sizes, .ref h_t_heldLeaves, .ref h_t_items, .ref h_t_kept, .int t_isKept])), (h_t_held, .inl (cI, 6, .inl a_t_held)), (h_t_heldLeaves, .inl (cI, 6, .inl a_t_heldLeaves)), (h_t_sizes, .inl (cI, 6, .inl a_t_sizes)), (h_t_items, .inl (cI, 120, .inl a_t_items)), (h_t_tree, .inl (cI, 3, .inl a_t_tree))] → va_S A s.heap H locs → lv_has ls 4 [(2, .int vK56_98_0)] → K_X9_common__56_98 vK56_98_0 = some r0 → W p l e (headSpec wsX9_common_ ({ frames := 2, cells := 0, slots := 0, locals := 45 })).room s m ([.ref h_t, .int p0] : List Value).toArray below meth c H locs 0 0 (MQ below (va_Qi (fun r (_ : Unit) => r = r0 ∧ True) (fun _ t => va_P G vwCl [(h_t, .inr (8, [.int t_genus, .int t_marks, .ref h_t_powers, .int t_leaves, .int t_splits, .ref h_t_tree, .ref h_t_ahead, .ref h_t_behind, .ref h_t_before, .int t_done, .int t_undone, .ref h_t_rows, .ref h_t_met, .ref h_t_metSizes, .int t_metMany, .int t_treesSeen, .ref h_t_chosen, .ref h_t_tape, .int t_taped, .int t_place, .int t_isWrong, .int t_toldGenus, .int t_toldMarks, .ref h_t_toldPowers, .ref h_t_powerPlaces, .int t_isTree, .int t_toldLeaves, .int t_leavesPlace, .int t_toldSplits, .ref h_t_toldTree, .ref h_t_splitPlaces, .ref h_t_layers, .int t_isWhy, .ref h_t_paper, .int t_papered, .ref h_t_held, .ref h_t_numbers, .ref h_t_sizes, .ref h_t_heldLeaves, .ref h_t_items, .ref h_t_kept, .int t_isKept])), (h_t_held, .inl (cI, 6, .inl a_t_held)), (h_t_heldLeaves, .inl (cI, 6, .inl a_t_heldLeaves)), (h_t_sizes, .inl (cI, 6, .inl a_t_sizes)), (h_t_items, .inl (cI, 120, .inl a_t_items)), (h_t_tree, .inl (cI, 3, .inl a_t_tree))] t.heap) A) ([.ref h_t, .int p0] : List Value).toArray s 0 0 A) (F0 m 98 ls []) := by
    intro vK56_98_0 H locs ls hP hD hS hl h
    unfold K_X9_common__56_98 at h
    refine lv_iload_n hx hb dX9_common__98 rfl (lv_at hl 0 rfl) ?_
    have h9 := Option.some.inj h
    have e9 : vK56_98_0 = r0 := congrArg (fun z9 => z9) h9
    rw [← e9]
    exact k_iret hx hb hr hlocks hP hS rfl dX9_common__99
  have hL56 : ∀ (n56 : Nat) (vL56_0 : Int32) (vL56_1 : Int32) (H : Heap) (locs : List Loc) (ls : Array Slot), va_P G vwCl [(h_t, .inr (8, [.int t_genus, .int t_marks, .ref h_t_powers, .int t_leaves, .int t_splits, .ref h_t_tree, .ref h_t_ahead, .ref h_t_behind, .ref h_t_before, .int t_done, .int t_undone, .ref h_t_rows, .ref h_t_met, .ref h_t_metSizes, .int t_metMany, .int t_treesSeen, .ref h_t_chosen, .ref h_t_tape, .int t_taped, .int t_place, .int t_isWrong, .int t_toldGenus, .int t_toldMarks, .ref h_t_toldPowers, .ref h_t_powerPlaces, .int t_isTree, .int t_toldLeaves, .int t_leavesPlace, .int t_toldSplits, .ref h_t_toldTree, .ref h_t_splitPlaces, .ref h_t_layers, .int t_isWhy, .ref h_t_paper, .int t_papered, .ref h_t_held, .ref h_t_numbers, .ref h_t_sizes, .ref h_t_heldLeaves, .ref h_t_items, .ref h_t_kept, .int t_isKept])), (h_t_held, .inl (cI, 6, .inl a_t_held)), (h_t_heldLeaves, .inl (cI, 6, .inl a_t_heldLeaves)), (h_t_sizes, .inl (cI, 6, .inl a_t_sizes)), (h_t_items, .inl (cI, 120, .inl a_t_items)), (h_t_tree, .inl (cI, 3, .inl a_t_tree))] H → va_D A [(h_t, .inr (8, [.int t_genus, .int t_marks, .ref h_t_powers, .int t_leaves, .int t_splits, .ref h_t_tree, .ref h_t_ahead, .ref h_t_behind, .ref h_t_before, .int t_done, .int t_undone, .ref h_t_rows, .ref h_t_met, .ref h_t_metSizes, .int t_metMany, .int t_treesSeen, .ref h_t_chosen, .ref h_t_tape, .int t_taped, .int t_place, .int t_isWrong, .int t_toldGenus, .int t_toldMarks, .ref h_t_toldPowers, .ref h_t_powerPlaces, .int t_isTree, .int t_toldLeaves, .int t_leavesPlace, .int t_toldSplits, .ref h_t_toldTree, .ref h_t_splitPlaces, .ref h_t_layers, .int t_isWhy, .ref h_t_paper, .int t_papered, .ref h_t_held, .ref h_t_numbers, .ref h_t_sizes, .ref h_t_heldLeaves, .ref h_t_items, .ref h_t_kept, .int t_isKept])), (h_t_held, .inl (cI, 6, .inl a_t_held)), (h_t_heldLeaves, .inl (cI, 6, .inl a_t_heldLeaves)), (h_t_sizes, .inl (cI, 6, .inl a_t_sizes)), (h_t_items, .inl (cI, 120, .inl a_t_items)), (h_t_tree, .inl (cI, 3, .inl a_t_tree))] → va_S A s.heap H locs → lv_has ls 4 [(0, .ref h_t), (1, .int p0), (2, .int vL56_0), (3, .int vL56_1)] → wq2 (B_X9_common__56 t_splits a_t_sizes a_t_items a_t_tree p0 K_X9_common__56_98) n56 vL56_0 vL56_1 = some r0 → W p l e (headSpec wsX9_common_ ({ frames := 2, cells := 0, slots := 0, locals := 45 })).room s m ([.ref h_t, .int p0] : List Value).toArray below meth c H locs 0 0 (MQ below (va_Qi (fun r (_ : Unit) => r = r0 ∧ True) (fun _ t => va_P G vwCl [(h_t, .inr (8, [.int t_genus, .int t_marks, .ref h_t_powers, .int t_leaves, .int t_splits, .ref h_t_tree, .ref h_t_ahead, .ref h_t_behind, .ref h_t_before, .int t_done, .int t_undone, .ref h_t_rows, .ref h_t_met, .ref h_t_metSizes, .int t_metMany, .int t_treesSeen, .ref h_t_chosen, .ref h_t_tape, .int t_taped, .int t_place, .int t_isWrong, .int t_toldGenus, .int t_toldMarks, .ref h_t_toldPowers, .ref h_t_powerPlaces, .int t_isTree, .int t_toldLeaves, .int t_leavesPlace, .int t_toldSplits, .ref h_t_toldTree, .ref h_t_splitPlaces, .ref h_t_layers, .int t_isWhy, .ref h_t_paper, .int t_papered, .ref h_t_held, .ref h_t_numbers, .ref h_t_sizes, .ref h_t_heldLeaves, .ref h_t_items, .ref h_t_kept, .int t_isKept])), (h_t_held, .inl (cI, 6, .inl a_t_held)), (h_t_heldLeaves, .inl (cI, 6, .inl a_t_heldLeaves)), (h_t_sizes, .inl (cI, 6, .inl a_t_sizes)), (h_t_items, .inl (cI, 120, .inl a_t_items)), (h_t_tree, .inl (cI, 3, .inl a_t_tree))] t.heap) A) ([.ref h_t, .int p0] : List Value).toArray s 0 0 A) (F0 m 56 ls []) := by
    intro n56
    induction n56 with
    | zero => intro vL56_0 vL56_1 H locs ls hP hD hS hl h; exact wq2_0 h
    | succ n56 ih56 =>
      intro vL56_0 vL56_1 H locs ls hP hD hS hl h
      have h := wq2_s h
      unfold B_X9_common__56 at h
      refine lv_iload_n hx hb dX9_common__56 rfl (lv_at hl 3 rfl) ?_
      refine lv_aload_n hx hb dX9_common__57 rfl (lv_at hl 0 rfl) ?_
      refine va_get (D := G) (ci := 8) (v := .ref h_t_sizes) (C := RX9) (T := TX9) (N := 42) hx hb hts hinX9 hown hK hP 0 rfl rfl 37 (by decide) (hta _ mw_628) (fun _ h9 => h9) rfl dX9_common__58 ?_
      refine lv_iload_n hx hb dX9_common__61 rfl (lv_at hl 1 rfl) ?_
      obtain ⟨hn7, h⟩ := ck_e h
      refine va_iald hx hb hK hP 3 0 rfl rfl hn7 dX9_common__62 ?_
      refine lv_icmp_ge (tgt := 98) hx hb dX9_common__63 (by decide) (fun c8 => ?_) (fun c8 => ?_)
      · have h := it_p h c8
        exact hK_X9_common__56_98 vL56_0 _ _ _ hP hD hS (lv_sub hl [2] rfl) h
      have h := it_n h c8
      refine lv_iload_n hx hb dX9_common__66 rfl (lv_at hl 2 rfl) ?_
      refine lv_aload_n hx hb dX9_common__67 rfl (lv_at hl 0 rfl) ?_
      refine lv_aload_n hx hb dX9_common__68 rfl (lv_at hl 0 rfl) ?_
      refine va_get (D := G) (ci := 8) (v := .ref h_t_items) (C := RX9) (T := TX9) (N := 42) hx hb hts hinX9 hown hK hP 0 rfl rfl 39 (by decide) (hta _ mw_630) (fun _ h9 => h9) rfl dX9_common__69 ?_
      refine lv_bipush (v := (20 : Int32)) hx hb dX9_common__72 (by decide) ?_
      refine lv_iload_n hx hb dX9_common__74 rfl (lv_at hl 1 rfl) ?_
      refine lv_imul hx hb dX9_common__75 ?_
      refine lv_iload_n hx hb dX9_common__76 rfl (lv_at hl 3 rfl) ?_
      refine lv_iadd hx hb dX9_common__77 ?_
      obtain ⟨hn9, h⟩ := ck_e h
      refine va_iald hx hb hK hP 4 0 rfl rfl hn9 dX9_common__78 ?_
      obtain ⟨x10, hx10, h⟩ := bd_e h
      try dsimp only at h
      refine k_ViU (n := 1) (As := [.int (a_t_items (((20 : Int32) * p0) + vL56_1).toNatClampNeg)]) (rest := [.int vL56_0]) hx hb hml hown hts (c_X9_placeOf l G cI cJ cD cH H.size h_t h_t_tree h_t_powers h_t_ahead h_t_behind h_t_before h_t_rows h_t_met h_t_metSizes h_t_chosen h_t_tape h_t_toldPowers h_t_powerPlaces h_t_toldTree h_t_splitPlaces h_t_layers h_t_paper h_t_held h_t_numbers h_t_sizes h_t_heldLeaves h_t_items h_t_kept t_genus t_marks t_leaves t_splits t_done t_undone t_metMany t_treesSeen t_taped t_place t_isWrong t_toldGenus t_toldMarks t_isTree t_toldLeaves t_leavesPlace t_toldSplits t_isWhy t_papered t_isKept a_t_tree (a_t_items (((20 : Int32) * p0) + vL56_1).toNatClampNeg) x10 hx10) gX9_common__X9_placeOf rfl rfl rfl (by decide +kernel) ⟨by first | exact Nat.le_of_ble_eq_true rfl | (simp only [headSpec]; omega), by first | exact Nat.le_of_ble_eq_true rfl | (simp only [headSpec]; omega)⟩ hK hP hD hS hA [0, 5] (by decide) rfl (ci := 8) rfl rfl rfl rfl rfl hl.1 (Nat.le_of_ble_eq_true rfl) dX9_common__79 ⟨Nat.zero_le _, Nat.zero_le _⟩ (fun hp10 H locs hP hS => ?_)
      refine lv_if_lt (tgt := 89) hx hb dX9_common__82 (by decide) (fun c11 => ?_) (fun c11 => ?_)
      · have h := it_p h c11
        refine lv_iconst (v := (0 : Int32)) hx hb dX9_common__89 (by decide) ?_
        refine lv_iadd hx hb dX9_common__90 ?_
        refine lv_istore_n (lv' := [(2, .int (vL56_0 + (0 : Int32))), (0, .ref h_t), (1, .int p0), (3, .int vL56_1)]) hx hb dX9_common__91 rfl hl (by decide) rfl (fun ls hl => ?_)
        refine lv_iinc (v := (vL56_1 + (1 : Int32))) (lv' := [(3, .int (vL56_1 + (1 : Int32))), (2, .int (vL56_0 + (0 : Int32))), (0, .ref h_t), (1, .int p0)]) hx hb dX9_common__92 hl (k := 3) rfl (by first | rfl | decide) (by decide) rfl (fun ls hl => ?_)
        refine lv_goto (tgt := 56) hx hb dX9_common__95 (by decide) ?_
        exact ih56 (vL56_0 + (0 : Int32)) (vL56_1 + (1 : Int32)) _ _ _ hP hD hS (lv_sub hl [2, 3, 1, 0] rfl) h
      have h := it_n h c11
      refine lv_iconst (v := (1 : Int32)) hx hb dX9_common__85 (by decide) ?_
      refine lv_goto (tgt := 90) hx hb dX9_common__86 (by decide) ?_
      refine lv_iadd hx hb dX9_common__90 ?_
      refine lv_istore_n (lv' := [(2, .int (vL56_0 + (1 : Int32))), (0, .ref h_t), (1, .int p0), (3, .int vL56_1)]) hx hb dX9_common__91 rfl hl (by decide) rfl (fun ls hl => ?_)
      refine lv_iinc (v := (vL56_1 + (1 : Int32))) (lv' := [(3, .int (vL56_1 + (1 : Int32))), (2, .int (vL56_0 + (1 : Int32))), (0, .ref h_t), (1, .int p0)]) hx hb dX9_common__92 hl (k := 3) rfl (by first | rfl | decide) (by decide) rfl (fun ls hl => ?_)
      refine lv_goto (tgt := 56) hx hb dX9_common__95 (by decide) ?_
      exact ih56 (vL56_0 + (1 : Int32)) (vL56_1 + (1 : Int32)) _ _ _ hP hD hS (lv_sub hl [2, 3, 1, 0] rfl) h
  exact hL56 FU (0 : Int32) (0 : Int32) _ _ _ hP hD hS (lv_sub hl [2, 3, 1, 0] rfl) h

/-! X9_row -/
set_option maxHeartbeats 4000000 in
set_option maxRecDepth 100000 in
theorem tK_X9_row_38_62 {l : Launch} {G : va_G} {cI cJ cD cH : ClassId} {h_t : Nat} {h_t_held : Nat} {h_t_sizes : Nat} {h_t_items : Nat} {h_t_powers : Nat} {h_t_tree : Nat} {h_t_ahead : Nat} {h_t_behind : Nat} {h_t_before : Nat} {h_t_rows : Nat} {h_t_met : Nat} {h_t_metSizes : Nat} {h_t_chosen : Nat} {h_t_tape : Nat} {h_t_toldPowers : Nat} {h_t_powerPlaces : Nat} {h_t_toldTree : Nat} {h_t_splitPlaces : Nat} {h_t_layers : Nat} {h_t_paper : Nat} {h_t_numbers : Nat} {h_t_heldLeaves : Nat} {h_t_kept : Nat} {t_genus : Int32} {t_marks : Int32} {t_leaves : Int32} {t_splits : Int32} {t_done : Int32} {t_undone : Int32} {t_metMany : Int32} {t_treesSeen : Int32} {t_taped : Int32} {t_place : Int32} {t_isWrong : Int32} {t_toldGenus : Int32} {t_toldMarks : Int32} {t_isTree : Int32} {t_toldLeaves : Int32} {t_leavesPlace : Int32} {t_toldSplits : Int32} {t_isWhy : Int32} {t_papered : Int32} {t_isKept : Int32} {a_t_held : Nat → Int32} {a_t_sizes : Nat → Int32} {p0 : Int32} {p1 : Int32} {r0 : Int32} {w0 : Nat → Int32} {w1 : Nat → Int32} {w2 : Nat → Int32} {p : Program} {e : Env} {s : State} {m : MethodId} {below : List Frame} {meth : Method} {c : Code} {A : Nat → Prop} (hx : p.tables.exec = Jvm.exec) (hb : c.code = cX9_row) (hr : meth.sig.returnType = (some .int)) (hml : c.maxLocals = 4) (hts : ∀ w ∈ wsX9_row, w.before ([.ref h_t, .int p0, .int p1] : List Value).toArray s = true) (hown : s.vm.findClass RX9 = some m.cls) (hlocks : meth.locks = false) (hK : va_K G vwCl (k_T cI cJ cD cH) s) (hA : ∀ q : Nat, s.heap.size ≤ q → A q) : ∀  (vK38_62_0 : Nat → Int32) (H : Heap) (locs : List Loc) (ls : Array Slot), va_P G vwCl [(h_t, .inr (8, [.int t_genus, .int t_marks, .ref h_t_powers, .int t_leaves, .int t_splits, .ref h_t_tree, .ref h_t_ahead, .ref h_t_behind, .ref h_t_before, .int t_done, .int t_undone, .ref h_t_rows, .ref h_t_met, .ref h_t_metSizes, .int t_metMany, .int t_treesSeen, .ref h_t_chosen, .ref h_t_tape, .int t_taped, .int t_place, .int t_isWrong, .int t_toldGenus, .int t_toldMarks, .ref h_t_toldPowers, .ref h_t_powerPlaces, .int t_isTree, .int t_toldLeaves, .int t_leavesPlace, .int t_toldSplits, .ref h_t_toldTree, .ref h_t_splitPlaces, .ref h_t_layers, .int t_isWhy, .ref h_t_paper, .int t_papered, .ref h_t_held, .ref h_t_numbers, .ref h_t_sizes, .ref h_t_heldLeaves, .ref h_t_items, .ref h_t_kept, .int t_isKept])), (h_t_held, .inl (cI, 6, .inl (upd a_t_held p0.toNatClampNeg (3 : Int32)))), (h_t_sizes, .inl (cI, 6, .inl (upd a_t_sizes p0.toNatClampNeg p1))), (h_t_items, .inl (cI, 120, .inl vK38_62_0))] H → va_D A [(h_t, .inr (8, [.int t_genus, .int t_marks, .ref h_t_powers, .int t_leaves, .int t_splits, .ref h_t_tree, .ref h_t_ahead, .ref h_t_behind, .ref h_t_before, .int t_done, .int t_undone, .ref h_t_rows, .ref h_t_met, .ref h_t_metSizes, .int t_metMany, .int t_treesSeen, .ref h_t_chosen, .ref h_t_tape, .int t_taped, .int t_place, .int t_isWrong, .int t_toldGenus, .int t_toldMarks, .ref h_t_toldPowers, .ref h_t_powerPlaces, .int t_isTree, .int t_toldLeaves, .int t_leavesPlace, .int t_toldSplits, .ref h_t_toldTree, .ref h_t_splitPlaces, .ref h_t_layers, .int t_isWhy, .ref h_t_paper, .int t_papered, .ref h_t_held, .ref h_t_numbers, .ref h_t_sizes, .ref h_t_heldLeaves, .ref h_t_items, .ref h_t_kept, .int t_isKept])), (h_t_held, .inl (cI, 6, .inl (upd a_t_held p0.toNatClampNeg (3 : Int32)))), (h_t_sizes, .inl (cI, 6, .inl (upd a_t_sizes p0.toNatClampNeg p1))), (h_t_items, .inl (cI, 120, .inl vK38_62_0))] → va_S A s.heap H locs → lv_has ls 4 [(2, .int p1)] → K_X9_row_38_62 a_t_held a_t_sizes p0 p1 vK38_62_0 = some (r0, w0, w1, w2) → W p l e (headSpec wsX9_row ({ frames := 2, cells := 0, slots := 0, locals := 45 })).room s m ([.ref h_t, .int p0, .int p1] : List Value).toArray below meth c H locs 0 0 (MQ below (va_Qi (fun r (_ : Unit) => r = r0 ∧ True) (fun _ t => va_P G vwCl [(h_t, .inr (8, [.int t_genus, .int t_marks, .ref h_t_powers, .int t_leaves, .int t_splits, .ref h_t_tree, .ref h_t_ahead, .ref h_t_behind, .ref h_t_before, .int t_done, .int t_undone, .ref h_t_rows, .ref h_t_met, .ref h_t_metSizes, .int t_metMany, .int t_treesSeen, .ref h_t_chosen, .ref h_t_tape, .int t_taped, .int t_place, .int t_isWrong, .int t_toldGenus, .int t_toldMarks, .ref h_t_toldPowers, .ref h_t_powerPlaces, .int t_isTree, .int t_toldLeaves, .int t_leavesPlace, .int t_toldSplits, .ref h_t_toldTree, .ref h_t_splitPlaces, .ref h_t_layers, .int t_isWhy, .ref h_t_paper, .int t_papered, .ref h_t_held, .ref h_t_numbers, .ref h_t_sizes, .ref h_t_heldLeaves, .ref h_t_items, .ref h_t_kept, .int t_isKept])), (h_t_held, .inl (cI, 6, .inl w0)), (h_t_sizes, .inl (cI, 6, .inl w1)), (h_t_items, .inl (cI, 120, .inl w2))] t.heap) A) ([.ref h_t, .int p0, .int p1] : List Value).toArray s 0 0 A) (F0 m 62 ls []) := by
  have hta : ∀ w ∈ wA, w.before ([.ref h_t, .int p0, .int p1] : List Value).toArray s = true := hta_of hts
  have hinX9 : ∀ w ∈ wsX90, w ∈ wsX9_row := hin_of in_X9
  intro vK38_62_0 H locs ls hP hD hS hl h
  unfold K_X9_row_38_62 at h
  refine lv_iload_n hx hb dX9_row_62 rfl (lv_at hl 0 rfl) ?_
  have h9 := Option.some.inj h
  have e9 : p1 = r0 := congrArg (fun z9 => z9.1) h9
  rw [← e9]
  have e9 : (upd a_t_held p0.toNatClampNeg (3 : Int32)) = w0 := congrArg (fun z9 => z9.2.1) h9
  rw [← e9]
  have e9 : (upd a_t_sizes p0.toNatClampNeg p1) = w1 := congrArg (fun z9 => z9.2.2.1) h9
  rw [← e9]
  have e9 : vK38_62_0 = w2 := congrArg (fun z9 => z9.2.2.2) h9
  rw [← e9]
  exact k_iret hx hb hr hlocks hP hS rfl dX9_row_63
set_option maxHeartbeats 4000000 in
set_option maxRecDepth 100000 in
theorem c_X9_row (l : Launch) (G : va_G) (cI cJ cD cH : ClassId) (sz : Nat) (h_t : Nat) (h_t_held : Nat) (h_t_sizes : Nat) (h_t_items : Nat) (h_t_powers : Nat) (h_t_tree : Nat) (h_t_ahead : Nat) (h_t_behind : Nat) (h_t_before : Nat) (h_t_rows : Nat) (h_t_met : Nat) (h_t_metSizes : Nat) (h_t_chosen : Nat) (h_t_tape : Nat) (h_t_toldPowers : Nat) (h_t_powerPlaces : Nat) (h_t_toldTree : Nat) (h_t_splitPlaces : Nat) (h_t_layers : Nat) (h_t_paper : Nat) (h_t_numbers : Nat) (h_t_heldLeaves : Nat) (h_t_kept : Nat) (t_genus : Int32) (t_marks : Int32) (t_leaves : Int32) (t_splits : Int32) (t_done : Int32) (t_undone : Int32) (t_metMany : Int32) (t_treesSeen : Int32) (t_taped : Int32) (t_place : Int32) (t_isWrong : Int32) (t_toldGenus : Int32) (t_toldMarks : Int32) (t_isTree : Int32) (t_toldLeaves : Int32) (t_leavesPlace : Int32) (t_toldSplits : Int32) (t_isWhy : Int32) (t_papered : Int32) (t_isKept : Int32) (a_t_held : Nat → Int32) (a_t_sizes : Nat → Int32) (a_t_items : Nat → Int32) (p0 : Int32) (p1 : Int32) (r0 : Int32) (w0 : Nat → Int32) (w1 : Nat → Int32) (w2 : Nat → Int32) (hF : F_X9_row a_t_held a_t_sizes a_t_items p0 p1 = some (r0, w0, w1, w2)) : Met l yX9_row wsX9_row ({ frames := 2, cells := 0, slots := 0, locals := 45 }) (k_pre G (k_T cI cJ cD cH) [(h_t, .inr (8, [.int t_genus, .int t_marks, .ref h_t_powers, .int t_leaves, .int t_splits, .ref h_t_tree, .ref h_t_ahead, .ref h_t_behind, .ref h_t_before, .int t_done, .int t_undone, .ref h_t_rows, .ref h_t_met, .ref h_t_metSizes, .int t_metMany, .int t_treesSeen, .ref h_t_chosen, .ref h_t_tape, .int t_taped, .int t_place, .int t_isWrong, .int t_toldGenus, .int t_toldMarks, .ref h_t_toldPowers, .ref h_t_powerPlaces, .int t_isTree, .int t_toldLeaves, .int t_leavesPlace, .int t_toldSplits, .ref h_t_toldTree, .ref h_t_splitPlaces, .ref h_t_layers, .int t_isWhy, .ref h_t_paper, .int t_papered, .ref h_t_held, .ref h_t_numbers, .ref h_t_sizes, .ref h_t_heldLeaves, .ref h_t_items, .ref h_t_kept, .int t_isKept])), (h_t_held, .inl (cI, 6, .inl a_t_held)), (h_t_sizes, .inl (cI, 6, .inl a_t_sizes)), (h_t_items, .inl (cI, 120, .inl a_t_items))] sz [.ref h_t, .int p0, .int p1]) (va_Qi (fun r (_ : Unit) => r = r0 ∧ True) (fun _ t => va_P G vwCl [(h_t, .inr (8, [.int t_genus, .int t_marks, .ref h_t_powers, .int t_leaves, .int t_splits, .ref h_t_tree, .ref h_t_ahead, .ref h_t_behind, .ref h_t_before, .int t_done, .int t_undone, .ref h_t_rows, .ref h_t_met, .ref h_t_metSizes, .int t_metMany, .int t_treesSeen, .ref h_t_chosen, .ref h_t_tape, .int t_taped, .int t_place, .int t_isWrong, .int t_toldGenus, .int t_toldMarks, .ref h_t_toldPowers, .ref h_t_powerPlaces, .int t_isTree, .int t_toldLeaves, .int t_leavesPlace, .int t_toldSplits, .ref h_t_toldTree, .ref h_t_splitPlaces, .ref h_t_layers, .int t_isWhy, .ref h_t_paper, .int t_papered, .ref h_t_held, .ref h_t_numbers, .ref h_t_sizes, .ref h_t_heldLeaves, .ref h_t_items, .ref h_t_kept, .int t_isKept])), (h_t_held, .inl (cI, 6, .inl w0)), (h_t_sizes, .inl (cI, 6, .inl w1)), (h_t_items, .inl (cI, 120, .inl w2))] t.heap) (va_A [(h_t, .inr (8, [.int t_genus, .int t_marks, .ref h_t_powers, .int t_leaves, .int t_splits, .ref h_t_tree, .ref h_t_ahead, .ref h_t_behind, .ref h_t_before, .int t_done, .int t_undone, .ref h_t_rows, .ref h_t_met, .ref h_t_metSizes, .int t_metMany, .int t_treesSeen, .ref h_t_chosen, .ref h_t_tape, .int t_taped, .int t_place, .int t_isWrong, .int t_toldGenus, .int t_toldMarks, .ref h_t_toldPowers, .ref h_t_powerPlaces, .int t_isTree, .int t_toldLeaves, .int t_leavesPlace, .int t_toldSplits, .ref h_t_toldTree, .ref h_t_splitPlaces, .ref h_t_layers, .int t_isWhy, .ref h_t_paper, .int t_papered, .ref h_t_held, .ref h_t_numbers, .ref h_t_sizes, .ref h_t_heldLeaves, .ref h_t_items, .ref h_t_kept, .int t_isKept])), (h_t_held, .inl (cI, 6, .inl a_t_held)), (h_t_sizes, .inl (cI, 6, .inl a_t_sizes)), (h_t_items, .inl (cI, 120, .inl a_t_items))] sz)) 0 0 (va_A [(h_t, .inr (8, [.int t_genus, .int t_marks, .ref h_t_powers, .int t_leaves, .int t_splits, .ref h_t_tree, .ref h_t_ahead, .ref h_t_behind, .ref h_t_before, .int t_done, .int t_undone, .ref h_t_rows, .ref h_t_met, .ref h_t_metSizes, .int t_metMany, .int t_treesSeen, .ref h_t_chosen, .ref h_t_tape, .int t_taped, .int t_place, .int t_isWrong, .int t_toldGenus, .int t_toldMarks, .ref h_t_toldPowers, .ref h_t_powerPlaces, .int t_isTree, .int t_toldLeaves, .int t_leavesPlace, .int t_toldSplits, .ref h_t_toldTree, .ref h_t_splitPlaces, .ref h_t_layers, .int t_isWhy, .ref h_t_paper, .int t_papered, .ref h_t_held, .ref h_t_numbers, .ref h_t_sizes, .ref h_t_heldLeaves, .ref h_t_items, .ref h_t_kept, .int t_isKept])), (h_t_held, .inl (cI, 6, .inl a_t_held)), (h_t_sizes, .inl (cI, 6, .inl a_t_sizes)), (h_t_items, .inl (cI, 120, .inl a_t_items))] sz) := by
  refine Met.ofW (cc := cX9_row) (maxL := 4) (ret := (some .int)) (by decide) rfl ?_
  intro p e s m args below meth c s₁ B hml hv
  obtain ⟨rfl, hsz, hP, hK, hD0⟩ := hv
  have hx := B.exec
  have hb := B.bytes
  have hr := B.returns
  have hts := atoms_spec (ws := wsX9_row) B.pre
  have hta : ∀ w ∈ wA, w.before ([.ref h_t, .int p0, .int p1] : List Value).toArray s = true := hta_of hts
  have hown : s.vm.findClass RX9 = some m.cls := findClass_of_methodNamed B.named
  have hlocks := B.notSynchronized
  subst hsz
  have hD := hD0.self (sz := s.heap.size)
  generalize hAe : va_A [(h_t, .inr (8, [.int t_genus, .int t_marks, .ref h_t_powers, .int t_leaves, .int t_splits, .ref h_t_tree, .ref h_t_ahead, .ref h_t_behind, .ref h_t_before, .int t_done, .int t_undone, .ref h_t_rows, .ref h_t_met, .ref h_t_metSizes, .int t_metMany, .int t_treesSeen, .ref h_t_chosen, .ref h_t_tape, .int t_taped, .int t_place, .int t_isWrong, .int t_toldGenus, .int t_toldMarks, .ref h_t_toldPowers, .ref h_t_powerPlaces, .int t_isTree, .int t_toldLeaves, .int t_leavesPlace, .int t_toldSplits, .ref h_t_toldTree, .ref h_t_splitPlaces, .ref h_t_layers, .int t_isWhy, .ref h_t_paper, .int t_papered, .ref h_t_held, .ref h_t_numbers, .ref h_t_sizes, .ref h_t_heldLeaves, .ref h_t_items, .ref h_t_kept, .int t_isKept])), (h_t_held, .inl (cI, 6, .inl a_t_held)), (h_t_sizes, .inl (cI, 6, .inl a_t_sizes)), (h_t_items, .inl (cI, 120, .inl a_t_items))] s.heap.size = A at hD ⊢
  have hA : ∀ q : Nat, s.heap.size ≤ q → A q := fun q h => by rw [← hAe]; exact Or.inr h
  have hS : va_S A s.heap s.heap [] := va_S.rf
  have hl := lv_entry ([.ref h_t, .int p0, .int p1]) (n := 4) (Nat.le_of_ble_eq_true rfl)
  rw [lg_entry_eq]
  generalize (lg_sl ([.ref h_t, .int p0, .int p1]) ++ List.replicate (4 - (lg_sl ([.ref h_t, .int p0, .int p1])).length) Slot.unset).toArray = ls at hl ⊢
  have hl : lv_has ls 4 [(0, .ref h_t), (1, .int p0), (2, .int p1)] := hl
  have hinX9 : ∀ w ∈ wsX90, w ∈ wsX9_row := hin_of in_X9
  have h := hF
  unfold F_X9_row at h
  refine lv_iload_n hx hb dX9_row_0 rfl (lv_at hl 1 rfl) ?_
  obtain ⟨x1, hx1, h⟩ := bd_e h
  try dsimp only at h
  refine k_SiU (n := 1) (As := [.int p0]) (rest := []) hx hb hml hown hts (c_X9_isHolder l G cI cJ cD cH s.heap.size p0 x1 hx1) gX9_row_X9_isHolder rfl rfl rfl (by decide +kernel) ⟨by first | exact Nat.le_of_ble_eq_true rfl | (simp only [headSpec]; omega), by first | exact Nat.le_of_ble_eq_true rfl | (simp only [headSpec]; omega)⟩ hK hP hD hS hA [] (by decide) rfl rfl rfl hl.1 (Nat.le_of_ble_eq_true rfl) dX9_row_1 ⟨Nat.zero_le _, Nat.zero_le _⟩ (fun hp1 H locs hP hS => ?_)
  refine lv_if_eq (tgt := 13) hx hb dX9_row_4 (by decide) (fun c2 => ?_) (fun c2 => ?_)
  · have h := it_p h c2
    refine lv_iconst (v := (-1 : Int32)) hx hb dX9_row_13 (by decide) ?_
    have h9 := Option.some.inj h
    have e9 : (-1 : Int32) = r0 := congrArg (fun z9 => z9.1) h9
    rw [← e9]
    have e9 : a_t_held = w0 := congrArg (fun z9 => z9.2.1) h9
    rw [← e9]
    have e9 : a_t_sizes = w1 := congrArg (fun z9 => z9.2.2.1) h9
    rw [← e9]
    have e9 : a_t_items = w2 := congrArg (fun z9 => z9.2.2.2) h9
    rw [← e9]
    exact k_iret hx hb hr hlocks hP hS rfl dX9_row_14
  have h := it_n h c2
  refine lv_iload_n hx hb dX9_row_7 rfl (lv_at hl 2 rfl) ?_
  refine lv_bipush (v := (20 : Int32)) hx hb dX9_row_8 (by decide) ?_
  refine lv_icmp_le (tgt := 15) hx hb dX9_row_10 (by decide) (fun c3 => ?_) (fun c3 => ?_)
  rotate_left
  · have h := it_n h c3
    refine lv_iconst (v := (-1 : Int32)) hx hb dX9_row_13 (by decide) ?_
    have h9 := Option.some.inj h
    have e9 : (-1 : Int32) = r0 := congrArg (fun z9 => z9.1) h9
    rw [← e9]
    have e9 : a_t_held = w0 := congrArg (fun z9 => z9.2.1) h9
    rw [← e9]
    have e9 : a_t_sizes = w1 := congrArg (fun z9 => z9.2.2.1) h9
    rw [← e9]
    have e9 : a_t_items = w2 := congrArg (fun z9 => z9.2.2.2) h9
    rw [← e9]
    exact k_iret hx hb hr hlocks hP hS rfl dX9_row_14
  have h := it_p h c3
  refine lv_iload_n hx hb dX9_row_15 rfl (lv_at hl 2 rfl) ?_
  refine lv_if_ge (tgt := 22) hx hb dX9_row_16 (by decide) (fun c4 => ?_) (fun c4 => ?_)
  rotate_left
  · have h := it_n h c4
    refine lv_bipush (v := (-14 : Int32)) hx hb dX9_row_19 (by decide) ?_
    have h9 := Option.some.inj h
    have e9 : (-14 : Int32) = r0 := congrArg (fun z9 => z9.1) h9
    rw [← e9]
    have e9 : a_t_held = w0 := congrArg (fun z9 => z9.2.1) h9
    rw [← e9]
    have e9 : a_t_sizes = w1 := congrArg (fun z9 => z9.2.2.1) h9
    rw [← e9]
    have e9 : a_t_items = w2 := congrArg (fun z9 => z9.2.2.2) h9
    rw [← e9]
    exact k_iret hx hb hr hlocks hP hS rfl dX9_row_21
  have h := it_p h c4
  refine lv_aload_n hx hb dX9_row_22 rfl (lv_at hl 0 rfl) ?_
  refine va_get (D := G) (ci := 8) (v := .ref h_t_held) (C := RX9) (T := TX9) (N := 42) hx hb hts hinX9 hown hK hP 0 rfl rfl 35 (by decide) (hta _ mw_626) (fun _ h9 => h9) rfl dX9_row_23 ?_
  refine lv_iload_n hx hb dX9_row_26 rfl (lv_at hl 1 rfl) ?_
  refine lv_iconst (v := (3 : Int32)) hx hb dX9_row_27 (by decide) ?_
  obtain ⟨hn5, h⟩ := ck_e h
  refine va_iast hx hb hK hP hD hS 1 0 rfl rfl hn5 dX9_row_28 (fun H locs hP hD hS => ?_)
  have hP : va_P G vwCl [(h_t, .inr (8, [.int t_genus, .int t_marks, .ref h_t_powers, .int t_leaves, .int t_splits, .ref h_t_tree, .ref h_t_ahead, .ref h_t_behind, .ref h_t_before, .int t_done, .int t_undone, .ref h_t_rows, .ref h_t_met, .ref h_t_metSizes, .int t_metMany, .int t_treesSeen, .ref h_t_chosen, .ref h_t_tape, .int t_taped, .int t_place, .int t_isWrong, .int t_toldGenus, .int t_toldMarks, .ref h_t_toldPowers, .ref h_t_powerPlaces, .int t_isTree, .int t_toldLeaves, .int t_leavesPlace, .int t_toldSplits, .ref h_t_toldTree, .ref h_t_splitPlaces, .ref h_t_layers, .int t_isWhy, .ref h_t_paper, .int t_papered, .ref h_t_held, .ref h_t_numbers, .ref h_t_sizes, .ref h_t_heldLeaves, .ref h_t_items, .ref h_t_kept, .int t_isKept])), (h_t_held, .inl (cI, 6, .inl (upd a_t_held p0.toNatClampNeg (3 : Int32)))), (h_t_sizes, .inl (cI, 6, .inl a_t_sizes)), (h_t_items, .inl (cI, 120, .inl a_t_items))] H := hP
  have hD : va_D A [(h_t, .inr (8, [.int t_genus, .int t_marks, .ref h_t_powers, .int t_leaves, .int t_splits, .ref h_t_tree, .ref h_t_ahead, .ref h_t_behind, .ref h_t_before, .int t_done, .int t_undone, .ref h_t_rows, .ref h_t_met, .ref h_t_metSizes, .int t_metMany, .int t_treesSeen, .ref h_t_chosen, .ref h_t_tape, .int t_taped, .int t_place, .int t_isWrong, .int t_toldGenus, .int t_toldMarks, .ref h_t_toldPowers, .ref h_t_powerPlaces, .int t_isTree, .int t_toldLeaves, .int t_leavesPlace, .int t_toldSplits, .ref h_t_toldTree, .ref h_t_splitPlaces, .ref h_t_layers, .int t_isWhy, .ref h_t_paper, .int t_papered, .ref h_t_held, .ref h_t_numbers, .ref h_t_sizes, .ref h_t_heldLeaves, .ref h_t_items, .ref h_t_kept, .int t_isKept])), (h_t_held, .inl (cI, 6, .inl (upd a_t_held p0.toNatClampNeg (3 : Int32)))), (h_t_sizes, .inl (cI, 6, .inl a_t_sizes)), (h_t_items, .inl (cI, 120, .inl a_t_items))] := hD
  refine lv_aload_n hx hb dX9_row_29 rfl (lv_at hl 0 rfl) ?_
  refine va_get (D := G) (ci := 8) (v := .ref h_t_sizes) (C := RX9) (T := TX9) (N := 42) hx hb hts hinX9 hown hK hP 0 rfl rfl 37 (by decide) (hta _ mw_628) (fun _ h9 => h9) rfl dX9_row_30 ?_
  refine lv_iload_n hx hb dX9_row_33 rfl (lv_at hl 1 rfl) ?_
  refine lv_iload_n hx hb dX9_row_34 rfl (lv_at hl 2 rfl) ?_
  obtain ⟨hn6, h⟩ := ck_e h
  refine va_iast hx hb hK hP hD hS 2 0 rfl rfl hn6 dX9_row_35 (fun H locs hP hD hS => ?_)
  have hP : va_P G vwCl [(h_t, .inr (8, [.int t_genus, .int t_marks, .ref h_t_powers, .int t_leaves, .int t_splits, .ref h_t_tree, .ref h_t_ahead, .ref h_t_behind, .ref h_t_before, .int t_done, .int t_undone, .ref h_t_rows, .ref h_t_met, .ref h_t_metSizes, .int t_metMany, .int t_treesSeen, .ref h_t_chosen, .ref h_t_tape, .int t_taped, .int t_place, .int t_isWrong, .int t_toldGenus, .int t_toldMarks, .ref h_t_toldPowers, .ref h_t_powerPlaces, .int t_isTree, .int t_toldLeaves, .int t_leavesPlace, .int t_toldSplits, .ref h_t_toldTree, .ref h_t_splitPlaces, .ref h_t_layers, .int t_isWhy, .ref h_t_paper, .int t_papered, .ref h_t_held, .ref h_t_numbers, .ref h_t_sizes, .ref h_t_heldLeaves, .ref h_t_items, .ref h_t_kept, .int t_isKept])), (h_t_held, .inl (cI, 6, .inl (upd a_t_held p0.toNatClampNeg (3 : Int32)))), (h_t_sizes, .inl (cI, 6, .inl (upd a_t_sizes p0.toNatClampNeg p1))), (h_t_items, .inl (cI, 120, .inl a_t_items))] H := hP
  have hD : va_D A [(h_t, .inr (8, [.int t_genus, .int t_marks, .ref h_t_powers, .int t_leaves, .int t_splits, .ref h_t_tree, .ref h_t_ahead, .ref h_t_behind, .ref h_t_before, .int t_done, .int t_undone, .ref h_t_rows, .ref h_t_met, .ref h_t_metSizes, .int t_metMany, .int t_treesSeen, .ref h_t_chosen, .ref h_t_tape, .int t_taped, .int t_place, .int t_isWrong, .int t_toldGenus, .int t_toldMarks, .ref h_t_toldPowers, .ref h_t_powerPlaces, .int t_isTree, .int t_toldLeaves, .int t_leavesPlace, .int t_toldSplits, .ref h_t_toldTree, .ref h_t_splitPlaces, .ref h_t_layers, .int t_isWhy, .ref h_t_paper, .int t_papered, .ref h_t_held, .ref h_t_numbers, .ref h_t_sizes, .ref h_t_heldLeaves, .ref h_t_items, .ref h_t_kept, .int t_isKept])), (h_t_held, .inl (cI, 6, .inl (upd a_t_held p0.toNatClampNeg (3 : Int32)))), (h_t_sizes, .inl (cI, 6, .inl (upd a_t_sizes p0.toNatClampNeg p1))), (h_t_items, .inl (cI, 120, .inl a_t_items))] := hD
  refine lv_iconst (v := (0 : Int32)) hx hb dX9_row_36 (by decide) ?_
  refine lv_istore_n (lv' := [(3, .int (0 : Int32)), (0, .ref h_t), (1, .int p0), (2, .int p1)]) hx hb dX9_row_37 rfl hl (by decide) rfl (fun ls hl => ?_)
  have hL38 : ∀ (n38 : Nat) (vL38_0 : Nat → Int32) (vL38_1 : Int32) (H : Heap) (locs : List Loc) (ls : Array Slot), va_P G vwCl [(h_t, .inr (8, [.int t_genus, .int t_marks, .ref h_t_powers, .int t_leaves, .int t_splits, .ref h_t_tree, .ref h_t_ahead, .ref h_t_behind, .ref h_t_before, .int t_done, .int t_undone, .ref h_t_rows, .ref h_t_met, .ref h_t_metSizes, .int t_metMany, .int t_treesSeen, .ref h_t_chosen, .ref h_t_tape, .int t_taped, .int t_place, .int t_isWrong, .int t_toldGenus, .int t_toldMarks, .ref h_t_toldPowers, .ref h_t_powerPlaces, .int t_isTree, .int t_toldLeaves, .int t_leavesPlace, .int t_toldSplits, .ref h_t_toldTree, .ref h_t_splitPlaces, .ref h_t_layers, .int t_isWhy, .ref h_t_paper, .int t_papered, .ref h_t_held, .ref h_t_numbers, .ref h_t_sizes, .ref h_t_heldLeaves, .ref h_t_items, .ref h_t_kept, .int t_isKept])), (h_t_held, .inl (cI, 6, .inl (upd a_t_held p0.toNatClampNeg (3 : Int32)))), (h_t_sizes, .inl (cI, 6, .inl (upd a_t_sizes p0.toNatClampNeg p1))), (h_t_items, .inl (cI, 120, .inl vL38_0))] H → va_D A [(h_t, .inr (8, [.int t_genus, .int t_marks, .ref h_t_powers, .int t_leaves, .int t_splits, .ref h_t_tree, .ref h_t_ahead, .ref h_t_behind, .ref h_t_before, .int t_done, .int t_undone, .ref h_t_rows, .ref h_t_met, .ref h_t_metSizes, .int t_metMany, .int t_treesSeen, .ref h_t_chosen, .ref h_t_tape, .int t_taped, .int t_place, .int t_isWrong, .int t_toldGenus, .int t_toldMarks, .ref h_t_toldPowers, .ref h_t_powerPlaces, .int t_isTree, .int t_toldLeaves, .int t_leavesPlace, .int t_toldSplits, .ref h_t_toldTree, .ref h_t_splitPlaces, .ref h_t_layers, .int t_isWhy, .ref h_t_paper, .int t_papered, .ref h_t_held, .ref h_t_numbers, .ref h_t_sizes, .ref h_t_heldLeaves, .ref h_t_items, .ref h_t_kept, .int t_isKept])), (h_t_held, .inl (cI, 6, .inl (upd a_t_held p0.toNatClampNeg (3 : Int32)))), (h_t_sizes, .inl (cI, 6, .inl (upd a_t_sizes p0.toNatClampNeg p1))), (h_t_items, .inl (cI, 120, .inl vL38_0))] → va_S A s.heap H locs → lv_has ls 4 [(0, .ref h_t), (1, .int p0), (2, .int p1), (3, .int vL38_1)] → wq2 (B_X9_row_38 p0 (K_X9_row_38_62 a_t_held a_t_sizes p0 p1)) n38 vL38_0 vL38_1 = some (r0, w0, w1, w2) → W p l e (headSpec wsX9_row ({ frames := 2, cells := 0, slots := 0, locals := 45 })).room s m ([.ref h_t, .int p0, .int p1] : List Value).toArray below meth c H locs 0 0 (MQ below (va_Qi (fun r (_ : Unit) => r = r0 ∧ True) (fun _ t => va_P G vwCl [(h_t, .inr (8, [.int t_genus, .int t_marks, .ref h_t_powers, .int t_leaves, .int t_splits, .ref h_t_tree, .ref h_t_ahead, .ref h_t_behind, .ref h_t_before, .int t_done, .int t_undone, .ref h_t_rows, .ref h_t_met, .ref h_t_metSizes, .int t_metMany, .int t_treesSeen, .ref h_t_chosen, .ref h_t_tape, .int t_taped, .int t_place, .int t_isWrong, .int t_toldGenus, .int t_toldMarks, .ref h_t_toldPowers, .ref h_t_powerPlaces, .int t_isTree, .int t_toldLeaves, .int t_leavesPlace, .int t_toldSplits, .ref h_t_toldTree, .ref h_t_splitPlaces, .ref h_t_layers, .int t_isWhy, .ref h_t_paper, .int t_papered, .ref h_t_held, .ref h_t_numbers, .ref h_t_sizes, .ref h_t_heldLeaves, .ref h_t_items, .ref h_t_kept, .int t_isKept])), (h_t_held, .inl (cI, 6, .inl w0)), (h_t_sizes, .inl (cI, 6, .inl w1)), (h_t_items, .inl (cI, 120, .inl w2))] t.heap) A) ([.ref h_t, .int p0, .int p1] : List Value).toArray s 0 0 A) (F0 m 38 ls []) := by
    intro n38
    induction n38 with
    | zero => intro vL38_0 vL38_1 H locs ls hP hD hS hl h; exact wq2_0 h
    | succ n38 ih38 =>
      intro vL38_0 vL38_1 H locs ls hP hD hS hl h
      have h := wq2_s h
      unfold B_X9_row_38 at h
      refine lv_iload_n hx hb dX9_row_38 rfl (lv_at hl 3 rfl) ?_
      refine lv_bipush (v := (20 : Int32)) hx hb dX9_row_39 (by decide) ?_
      refine lv_icmp_ge (tgt := 62) hx hb dX9_row_41 (by decide) (fun c7 => ?_) (fun c7 => ?_)
      · have h := it_p h c7
        exact tK_X9_row_38_62 hx hb hr hml hts hown hlocks hK hA vL38_0 _ _ _ hP hD hS (lv_sub hl [2] rfl) h
      have h := it_n h c7
      refine lv_aload_n hx hb dX9_row_44 rfl (lv_at hl 0 rfl) ?_
      refine va_get (D := G) (ci := 8) (v := .ref h_t_items) (C := RX9) (T := TX9) (N := 42) hx hb hts hinX9 hown hK hP 0 rfl rfl 39 (by decide) (hta _ mw_630) (fun _ h9 => h9) rfl dX9_row_45 ?_
      refine lv_bipush (v := (20 : Int32)) hx hb dX9_row_48 (by decide) ?_
      refine lv_iload_n hx hb dX9_row_50 rfl (lv_at hl 1 rfl) ?_
      refine lv_imul hx hb dX9_row_51 ?_
      refine lv_iload_n hx hb dX9_row_52 rfl (lv_at hl 3 rfl) ?_
      refine lv_iadd hx hb dX9_row_53 ?_
      refine lv_iconst (v := (0 : Int32)) hx hb dX9_row_54 (by decide) ?_
      obtain ⟨hn8, h⟩ := ck_e h
      refine va_iast hx hb hK hP hD hS 3 0 rfl rfl hn8 dX9_row_55 (fun H locs hP hD hS => ?_)
      have hP : va_P G vwCl [(h_t, .inr (8, [.int t_genus, .int t_marks, .ref h_t_powers, .int t_leaves, .int t_splits, .ref h_t_tree, .ref h_t_ahead, .ref h_t_behind, .ref h_t_before, .int t_done, .int t_undone, .ref h_t_rows, .ref h_t_met, .ref h_t_metSizes, .int t_metMany, .int t_treesSeen, .ref h_t_chosen, .ref h_t_tape, .int t_taped, .int t_place, .int t_isWrong, .int t_toldGenus, .int t_toldMarks, .ref h_t_toldPowers, .ref h_t_powerPlaces, .int t_isTree, .int t_toldLeaves, .int t_leavesPlace, .int t_toldSplits, .ref h_t_toldTree, .ref h_t_splitPlaces, .ref h_t_layers, .int t_isWhy, .ref h_t_paper, .int t_papered, .ref h_t_held, .ref h_t_numbers, .ref h_t_sizes, .ref h_t_heldLeaves, .ref h_t_items, .ref h_t_kept, .int t_isKept])), (h_t_held, .inl (cI, 6, .inl (upd a_t_held p0.toNatClampNeg (3 : Int32)))), (h_t_sizes, .inl (cI, 6, .inl (upd a_t_sizes p0.toNatClampNeg p1))), (h_t_items, .inl (cI, 120, .inl (upd vL38_0 (((20 : Int32) * p0) + vL38_1).toNatClampNeg (0 : Int32))))] H := hP
      have hD : va_D A [(h_t, .inr (8, [.int t_genus, .int t_marks, .ref h_t_powers, .int t_leaves, .int t_splits, .ref h_t_tree, .ref h_t_ahead, .ref h_t_behind, .ref h_t_before, .int t_done, .int t_undone, .ref h_t_rows, .ref h_t_met, .ref h_t_metSizes, .int t_metMany, .int t_treesSeen, .ref h_t_chosen, .ref h_t_tape, .int t_taped, .int t_place, .int t_isWrong, .int t_toldGenus, .int t_toldMarks, .ref h_t_toldPowers, .ref h_t_powerPlaces, .int t_isTree, .int t_toldLeaves, .int t_leavesPlace, .int t_toldSplits, .ref h_t_toldTree, .ref h_t_splitPlaces, .ref h_t_layers, .int t_isWhy, .ref h_t_paper, .int t_papered, .ref h_t_held, .ref h_t_numbers, .ref h_t_sizes, .ref h_t_heldLeaves, .ref h_t_items, .ref h_t_kept, .int t_isKept])), (h_t_held, .inl (cI, 6, .inl (upd a_t_held p0.toNatClampNeg (3 : Int32)))), (h_t_sizes, .inl (cI, 6, .inl (upd a_t_sizes p0.toNatClampNeg p1))), (h_t_items, .inl (cI, 120, .inl (upd vL38_0 (((20 : Int32) * p0) + vL38_1).toNatClampNeg (0 : Int32))))] := hD
      refine lv_iinc (v := (vL38_1 + (1 : Int32))) (lv' := [(3, .int (vL38_1 + (1 : Int32))), (0, .ref h_t), (1, .int p0), (2, .int p1)]) hx hb dX9_row_56 hl (k := 3) rfl (by first | rfl | decide) (by decide) rfl (fun ls hl => ?_)
      refine lv_goto (tgt := 38) hx hb dX9_row_59 (by decide) ?_
      exact ih38 (upd vL38_0 (((20 : Int32) * p0) + vL38_1).toNatClampNeg (0 : Int32)) (vL38_1 + (1 : Int32)) _ _ _ hP hD hS (lv_sub hl [1, 2, 3, 0] rfl) h
  exact hL38 FU a_t_items (0 : Int32) _ _ _ hP hD hS (lv_sub hl [1, 2, 3, 0] rfl) h

/-! X9_rowless -/
set_option maxHeartbeats 4000000 in
set_option maxRecDepth 100000 in
theorem c_X9_rowless (l : Launch) (G : va_G) (cI cJ cD cH : ClassId) (sz : Nat) (h_t : Nat) (h_t_held : Nat) (h_t_powers : Nat) (h_t_tree : Nat) (h_t_ahead : Nat) (h_t_behind : Nat) (h_t_before : Nat) (h_t_rows : Nat) (h_t_met : Nat) (h_t_metSizes : Nat) (h_t_chosen : Nat) (h_t_tape : Nat) (h_t_toldPowers : Nat) (h_t_powerPlaces : Nat) (h_t_toldTree : Nat) (h_t_splitPlaces : Nat) (h_t_layers : Nat) (h_t_paper : Nat) (h_t_numbers : Nat) (h_t_sizes : Nat) (h_t_heldLeaves : Nat) (h_t_items : Nat) (h_t_kept : Nat) (t_genus : Int32) (t_marks : Int32) (t_leaves : Int32) (t_splits : Int32) (t_done : Int32) (t_undone : Int32) (t_metMany : Int32) (t_treesSeen : Int32) (t_taped : Int32) (t_place : Int32) (t_isWrong : Int32) (t_toldGenus : Int32) (t_toldMarks : Int32) (t_isTree : Int32) (t_toldLeaves : Int32) (t_leavesPlace : Int32) (t_toldSplits : Int32) (t_isWhy : Int32) (t_papered : Int32) (t_isKept : Int32) (a_t_held : Nat → Int32) (p0 : Int32) (r0 : Int32) (hF : F_X9_rowless a_t_held p0 = some r0) : Met l yX9_rowless wsX9_rowless ({ frames := 0, cells := 0, slots := 0, locals := 0 }) (k_pre G (k_T cI cJ cD cH) [(h_t, .inr (8, [.int t_genus, .int t_marks, .ref h_t_powers, .int t_leaves, .int t_splits, .ref h_t_tree, .ref h_t_ahead, .ref h_t_behind, .ref h_t_before, .int t_done, .int t_undone, .ref h_t_rows, .ref h_t_met, .ref h_t_metSizes, .int t_metMany, .int t_treesSeen, .ref h_t_chosen, .ref h_t_tape, .int t_taped, .int t_place, .int t_isWrong, .int t_toldGenus, .int t_toldMarks, .ref h_t_toldPowers, .ref h_t_powerPlaces, .int t_isTree, .int t_toldLeaves, .int t_leavesPlace, .int t_toldSplits, .ref h_t_toldTree, .ref h_t_splitPlaces, .ref h_t_layers, .int t_isWhy, .ref h_t_paper, .int t_papered, .ref h_t_held, .ref h_t_numbers, .ref h_t_sizes, .ref h_t_heldLeaves, .ref h_t_items, .ref h_t_kept, .int t_isKept])), (h_t_held, .inl (cI, 6, .inl a_t_held))] sz [.ref h_t, .int p0]) (va_Qi (fun r (_ : Unit) => r = r0 ∧ True) (fun _ t => va_P G vwCl [(h_t, .inr (8, [.int t_genus, .int t_marks, .ref h_t_powers, .int t_leaves, .int t_splits, .ref h_t_tree, .ref h_t_ahead, .ref h_t_behind, .ref h_t_before, .int t_done, .int t_undone, .ref h_t_rows, .ref h_t_met, .ref h_t_metSizes, .int t_metMany, .int t_treesSeen, .ref h_t_chosen, .ref h_t_tape, .int t_taped, .int t_place, .int t_isWrong, .int t_toldGenus, .int t_toldMarks, .ref h_t_toldPowers, .ref h_t_powerPlaces, .int t_isTree, .int t_toldLeaves, .int t_leavesPlace, .int t_toldSplits, .ref h_t_toldTree, .ref h_t_splitPlaces, .ref h_t_layers, .int t_isWhy, .ref h_t_paper, .int t_papered, .ref h_t_held, .ref h_t_numbers, .ref h_t_sizes, .ref h_t_heldLeaves, .ref h_t_items, .ref h_t_kept, .int t_isKept])), (h_t_held, .inl (cI, 6, .inl a_t_held))] t.heap) (va_A [(h_t, .inr (8, [.int t_genus, .int t_marks, .ref h_t_powers, .int t_leaves, .int t_splits, .ref h_t_tree, .ref h_t_ahead, .ref h_t_behind, .ref h_t_before, .int t_done, .int t_undone, .ref h_t_rows, .ref h_t_met, .ref h_t_metSizes, .int t_metMany, .int t_treesSeen, .ref h_t_chosen, .ref h_t_tape, .int t_taped, .int t_place, .int t_isWrong, .int t_toldGenus, .int t_toldMarks, .ref h_t_toldPowers, .ref h_t_powerPlaces, .int t_isTree, .int t_toldLeaves, .int t_leavesPlace, .int t_toldSplits, .ref h_t_toldTree, .ref h_t_splitPlaces, .ref h_t_layers, .int t_isWhy, .ref h_t_paper, .int t_papered, .ref h_t_held, .ref h_t_numbers, .ref h_t_sizes, .ref h_t_heldLeaves, .ref h_t_items, .ref h_t_kept, .int t_isKept])), (h_t_held, .inl (cI, 6, .inl a_t_held))] sz)) 0 0 (va_A [(h_t, .inr (8, [.int t_genus, .int t_marks, .ref h_t_powers, .int t_leaves, .int t_splits, .ref h_t_tree, .ref h_t_ahead, .ref h_t_behind, .ref h_t_before, .int t_done, .int t_undone, .ref h_t_rows, .ref h_t_met, .ref h_t_metSizes, .int t_metMany, .int t_treesSeen, .ref h_t_chosen, .ref h_t_tape, .int t_taped, .int t_place, .int t_isWrong, .int t_toldGenus, .int t_toldMarks, .ref h_t_toldPowers, .ref h_t_powerPlaces, .int t_isTree, .int t_toldLeaves, .int t_leavesPlace, .int t_toldSplits, .ref h_t_toldTree, .ref h_t_splitPlaces, .ref h_t_layers, .int t_isWhy, .ref h_t_paper, .int t_papered, .ref h_t_held, .ref h_t_numbers, .ref h_t_sizes, .ref h_t_heldLeaves, .ref h_t_items, .ref h_t_kept, .int t_isKept])), (h_t_held, .inl (cI, 6, .inl a_t_held))] sz) := by
  refine Met.ofW (cc := cX9_rowless) (maxL := 2) (ret := (some .int)) (by decide) rfl ?_
  intro p e s m args below meth c s₁ B hml hv
  obtain ⟨rfl, hsz, hP, hK, hD0⟩ := hv
  have hx := B.exec
  have hb := B.bytes
  have hr := B.returns
  have hts := atoms_spec (ws := wsX9_rowless) B.pre
  have hta : ∀ w ∈ wA, w.before ([.ref h_t, .int p0] : List Value).toArray s = true := hta_of hts
  have hown : s.vm.findClass RX9 = some m.cls := findClass_of_methodNamed B.named
  have hlocks := B.notSynchronized
  subst hsz
  have hD := hD0.self (sz := s.heap.size)
  generalize hAe : va_A [(h_t, .inr (8, [.int t_genus, .int t_marks, .ref h_t_powers, .int t_leaves, .int t_splits, .ref h_t_tree, .ref h_t_ahead, .ref h_t_behind, .ref h_t_before, .int t_done, .int t_undone, .ref h_t_rows, .ref h_t_met, .ref h_t_metSizes, .int t_metMany, .int t_treesSeen, .ref h_t_chosen, .ref h_t_tape, .int t_taped, .int t_place, .int t_isWrong, .int t_toldGenus, .int t_toldMarks, .ref h_t_toldPowers, .ref h_t_powerPlaces, .int t_isTree, .int t_toldLeaves, .int t_leavesPlace, .int t_toldSplits, .ref h_t_toldTree, .ref h_t_splitPlaces, .ref h_t_layers, .int t_isWhy, .ref h_t_paper, .int t_papered, .ref h_t_held, .ref h_t_numbers, .ref h_t_sizes, .ref h_t_heldLeaves, .ref h_t_items, .ref h_t_kept, .int t_isKept])), (h_t_held, .inl (cI, 6, .inl a_t_held))] s.heap.size = A at hD ⊢
  have hA : ∀ q : Nat, s.heap.size ≤ q → A q := fun q h => by rw [← hAe]; exact Or.inr h
  have hS : va_S A s.heap s.heap [] := va_S.rf
  have hl := lv_entry ([.ref h_t, .int p0]) (n := 2) (Nat.le_of_ble_eq_true rfl)
  rw [lg_entry_eq]
  generalize (lg_sl ([.ref h_t, .int p0]) ++ List.replicate (2 - (lg_sl ([.ref h_t, .int p0])).length) Slot.unset).toArray = ls at hl ⊢
  have hl : lv_has ls 2 [(0, .ref h_t), (1, .int p0)] := hl
  have hinX9 : ∀ w ∈ wsX90, w ∈ wsX9_rowless := hin_of in_X9
  have h := hF
  unfold F_X9_rowless at h
  refine lv_aload_n hx hb dX9_rowless_0 rfl (lv_at hl 0 rfl) ?_
  refine va_get (D := G) (ci := 8) (v := .ref h_t_held) (C := RX9) (T := TX9) (N := 42) hx hb hts hinX9 hown hK hP 0 rfl rfl 35 (by decide) (hta _ mw_626) (fun _ h9 => h9) rfl dX9_rowless_1 ?_
  refine lv_iload_n hx hb dX9_rowless_4 rfl (lv_at hl 1 rfl) ?_
  obtain ⟨hn1, h⟩ := ck_e h
  refine va_iald hx hb hK hP 1 0 rfl rfl hn1 dX9_rowless_5 ?_
  refine lv_if_ne (tgt := 14) hx hb dX9_rowless_6 (by decide) (fun c2 => ?_) (fun c2 => ?_)
  rotate_left
  · have h := it_p h c2
    refine lv_bipush (v := (-11 : Int32)) hx hb dX9_rowless_9 (by decide) ?_
    refine lv_goto (tgt := 30) hx hb dX9_rowless_11 (by decide) ?_
    have h9 := Option.some.inj h
    have e9 : (-11 : Int32) = r0 := congrArg (fun z9 => z9) h9
    rw [← e9]
    exact k_iret hx hb hr hlocks hP hS rfl dX9_rowless_30
  have h := it_n h c2
  refine lv_aload_n hx hb dX9_rowless_14 rfl (lv_at hl 0 rfl) ?_
  refine va_get (D := G) (ci := 8) (v := .ref h_t_held) (C := RX9) (T := TX9) (N := 42) hx hb hts hinX9 hown hK hP 0 rfl rfl 35 (by decide) (hta _ mw_626) (fun _ h9 => h9) rfl dX9_rowless_15 ?_
  refine lv_iload_n hx hb dX9_rowless_18 rfl (lv_at hl 1 rfl) ?_
  obtain ⟨hn3, h⟩ := ck_e h
  refine va_iald hx hb hK hP 1 0 rfl rfl hn3 dX9_rowless_19 ?_
  refine lv_iconst (v := (3 : Int32)) hx hb dX9_rowless_20 (by decide) ?_
  refine lv_icmp_ne (tgt := 28) hx hb dX9_rowless_21 (by decide) (fun c4 => ?_) (fun c4 => ?_)
  · have h := it_n h c4
    refine lv_bipush (v := (-12 : Int32)) hx hb dX9_rowless_28 (by decide) ?_
    have h9 := Option.some.inj h
    have e9 : (-12 : Int32) = r0 := congrArg (fun z9 => z9) h9
    rw [← e9]
    exact k_iret hx hb hr hlocks hP hS rfl dX9_rowless_30
  have h := it_p h c4
  refine lv_iconst (v := (0 : Int32)) hx hb dX9_rowless_24 (by decide) ?_
  refine lv_goto (tgt := 30) hx hb dX9_rowless_25 (by decide) ?_
  have h9 := Option.some.inj h
  have e9 : (0 : Int32) = r0 := congrArg (fun z9 => z9) h9
  rw [← e9]
  exact k_iret hx hb hr hlocks hP hS rfl dX9_rowless_30

/-! X9_set -/
set_option maxHeartbeats 4000000 in
set_option maxRecDepth 100000 in
theorem c_X9_set (l : Launch) (G : va_G) (cI cJ cD cH : ClassId) (sz : Nat) (h_t : Nat) (h_t_held : Nat) (h_t_sizes : Nat) (h_t_items : Nat) (h_t_powers : Nat) (h_t_tree : Nat) (h_t_ahead : Nat) (h_t_behind : Nat) (h_t_before : Nat) (h_t_rows : Nat) (h_t_met : Nat) (h_t_metSizes : Nat) (h_t_chosen : Nat) (h_t_tape : Nat) (h_t_toldPowers : Nat) (h_t_powerPlaces : Nat) (h_t_toldTree : Nat) (h_t_splitPlaces : Nat) (h_t_layers : Nat) (h_t_paper : Nat) (h_t_numbers : Nat) (h_t_heldLeaves : Nat) (h_t_kept : Nat) (t_genus : Int32) (t_marks : Int32) (t_leaves : Int32) (t_splits : Int32) (t_done : Int32) (t_undone : Int32) (t_metMany : Int32) (t_treesSeen : Int32) (t_taped : Int32) (t_place : Int32) (t_isWrong : Int32) (t_toldGenus : Int32) (t_toldMarks : Int32) (t_isTree : Int32) (t_toldLeaves : Int32) (t_leavesPlace : Int32) (t_toldSplits : Int32) (t_isWhy : Int32) (t_papered : Int32) (t_isKept : Int32) (a_t_held : Nat → Int32) (a_t_sizes : Nat → Int32) (a_t_items : Nat → Int32) (p0 : Int32) (p1 : Int32) (p2 : Int32) (r0 : Int32) (w0 : Nat → Int32) (hF : F_X9_set a_t_held a_t_sizes a_t_items p0 p1 p2 = some (r0, w0)) : Met l yX9_set wsX9_set ({ frames := 2, cells := 0, slots := 0, locals := 45 }) (k_pre G (k_T cI cJ cD cH) [(h_t, .inr (8, [.int t_genus, .int t_marks, .ref h_t_powers, .int t_leaves, .int t_splits, .ref h_t_tree, .ref h_t_ahead, .ref h_t_behind, .ref h_t_before, .int t_done, .int t_undone, .ref h_t_rows, .ref h_t_met, .ref h_t_metSizes, .int t_metMany, .int t_treesSeen, .ref h_t_chosen, .ref h_t_tape, .int t_taped, .int t_place, .int t_isWrong, .int t_toldGenus, .int t_toldMarks, .ref h_t_toldPowers, .ref h_t_powerPlaces, .int t_isTree, .int t_toldLeaves, .int t_leavesPlace, .int t_toldSplits, .ref h_t_toldTree, .ref h_t_splitPlaces, .ref h_t_layers, .int t_isWhy, .ref h_t_paper, .int t_papered, .ref h_t_held, .ref h_t_numbers, .ref h_t_sizes, .ref h_t_heldLeaves, .ref h_t_items, .ref h_t_kept, .int t_isKept])), (h_t_held, .inl (cI, 6, .inl a_t_held)), (h_t_sizes, .inl (cI, 6, .inl a_t_sizes)), (h_t_items, .inl (cI, 120, .inl a_t_items))] sz [.ref h_t, .int p0, .int p1, .int p2]) (va_Qi (fun r (_ : Unit) => r = r0 ∧ True) (fun _ t => va_P G vwCl [(h_t, .inr (8, [.int t_genus, .int t_marks, .ref h_t_powers, .int t_leaves, .int t_splits, .ref h_t_tree, .ref h_t_ahead, .ref h_t_behind, .ref h_t_before, .int t_done, .int t_undone, .ref h_t_rows, .ref h_t_met, .ref h_t_metSizes, .int t_metMany, .int t_treesSeen, .ref h_t_chosen, .ref h_t_tape, .int t_taped, .int t_place, .int t_isWrong, .int t_toldGenus, .int t_toldMarks, .ref h_t_toldPowers, .ref h_t_powerPlaces, .int t_isTree, .int t_toldLeaves, .int t_leavesPlace, .int t_toldSplits, .ref h_t_toldTree, .ref h_t_splitPlaces, .ref h_t_layers, .int t_isWhy, .ref h_t_paper, .int t_papered, .ref h_t_held, .ref h_t_numbers, .ref h_t_sizes, .ref h_t_heldLeaves, .ref h_t_items, .ref h_t_kept, .int t_isKept])), (h_t_held, .inl (cI, 6, .inl a_t_held)), (h_t_sizes, .inl (cI, 6, .inl a_t_sizes)), (h_t_items, .inl (cI, 120, .inl w0))] t.heap) (va_A [(h_t, .inr (8, [.int t_genus, .int t_marks, .ref h_t_powers, .int t_leaves, .int t_splits, .ref h_t_tree, .ref h_t_ahead, .ref h_t_behind, .ref h_t_before, .int t_done, .int t_undone, .ref h_t_rows, .ref h_t_met, .ref h_t_metSizes, .int t_metMany, .int t_treesSeen, .ref h_t_chosen, .ref h_t_tape, .int t_taped, .int t_place, .int t_isWrong, .int t_toldGenus, .int t_toldMarks, .ref h_t_toldPowers, .ref h_t_powerPlaces, .int t_isTree, .int t_toldLeaves, .int t_leavesPlace, .int t_toldSplits, .ref h_t_toldTree, .ref h_t_splitPlaces, .ref h_t_layers, .int t_isWhy, .ref h_t_paper, .int t_papered, .ref h_t_held, .ref h_t_numbers, .ref h_t_sizes, .ref h_t_heldLeaves, .ref h_t_items, .ref h_t_kept, .int t_isKept])), (h_t_held, .inl (cI, 6, .inl a_t_held)), (h_t_sizes, .inl (cI, 6, .inl a_t_sizes)), (h_t_items, .inl (cI, 120, .inl a_t_items))] sz)) 0 0 (va_A [(h_t, .inr (8, [.int t_genus, .int t_marks, .ref h_t_powers, .int t_leaves, .int t_splits, .ref h_t_tree, .ref h_t_ahead, .ref h_t_behind, .ref h_t_before, .int t_done, .int t_undone, .ref h_t_rows, .ref h_t_met, .ref h_t_metSizes, .int t_metMany, .int t_treesSeen, .ref h_t_chosen, .ref h_t_tape, .int t_taped, .int t_place, .int t_isWrong, .int t_toldGenus, .int t_toldMarks, .ref h_t_toldPowers, .ref h_t_powerPlaces, .int t_isTree, .int t_toldLeaves, .int t_leavesPlace, .int t_toldSplits, .ref h_t_toldTree, .ref h_t_splitPlaces, .ref h_t_layers, .int t_isWhy, .ref h_t_paper, .int t_papered, .ref h_t_held, .ref h_t_numbers, .ref h_t_sizes, .ref h_t_heldLeaves, .ref h_t_items, .ref h_t_kept, .int t_isKept])), (h_t_held, .inl (cI, 6, .inl a_t_held)), (h_t_sizes, .inl (cI, 6, .inl a_t_sizes)), (h_t_items, .inl (cI, 120, .inl a_t_items))] sz) := by
  refine Met.ofW (cc := cX9_set) (maxL := 4) (ret := (some .int)) (by decide) rfl ?_
  intro p e s m args below meth c s₁ B hml hv
  obtain ⟨rfl, hsz, hP, hK, hD0⟩ := hv
  have hx := B.exec
  have hb := B.bytes
  have hr := B.returns
  have hts := atoms_spec (ws := wsX9_set) B.pre
  have hta : ∀ w ∈ wA, w.before ([.ref h_t, .int p0, .int p1, .int p2] : List Value).toArray s = true := hta_of hts
  have hown : s.vm.findClass RX9 = some m.cls := findClass_of_methodNamed B.named
  have hlocks := B.notSynchronized
  subst hsz
  have hD := hD0.self (sz := s.heap.size)
  generalize hAe : va_A [(h_t, .inr (8, [.int t_genus, .int t_marks, .ref h_t_powers, .int t_leaves, .int t_splits, .ref h_t_tree, .ref h_t_ahead, .ref h_t_behind, .ref h_t_before, .int t_done, .int t_undone, .ref h_t_rows, .ref h_t_met, .ref h_t_metSizes, .int t_metMany, .int t_treesSeen, .ref h_t_chosen, .ref h_t_tape, .int t_taped, .int t_place, .int t_isWrong, .int t_toldGenus, .int t_toldMarks, .ref h_t_toldPowers, .ref h_t_powerPlaces, .int t_isTree, .int t_toldLeaves, .int t_leavesPlace, .int t_toldSplits, .ref h_t_toldTree, .ref h_t_splitPlaces, .ref h_t_layers, .int t_isWhy, .ref h_t_paper, .int t_papered, .ref h_t_held, .ref h_t_numbers, .ref h_t_sizes, .ref h_t_heldLeaves, .ref h_t_items, .ref h_t_kept, .int t_isKept])), (h_t_held, .inl (cI, 6, .inl a_t_held)), (h_t_sizes, .inl (cI, 6, .inl a_t_sizes)), (h_t_items, .inl (cI, 120, .inl a_t_items))] s.heap.size = A at hD ⊢
  have hA : ∀ q : Nat, s.heap.size ≤ q → A q := fun q h => by rw [← hAe]; exact Or.inr h
  have hS : va_S A s.heap s.heap [] := va_S.rf
  have hl := lv_entry ([.ref h_t, .int p0, .int p1, .int p2]) (n := 4) (Nat.le_of_ble_eq_true rfl)
  rw [lg_entry_eq]
  generalize (lg_sl ([.ref h_t, .int p0, .int p1, .int p2]) ++ List.replicate (4 - (lg_sl ([.ref h_t, .int p0, .int p1, .int p2])).length) Slot.unset).toArray = ls at hl ⊢
  have hl : lv_has ls 4 [(0, .ref h_t), (1, .int p0), (2, .int p1), (3, .int p2)] := hl
  have hinX9 : ∀ w ∈ wsX90, w ∈ wsX9_set := hin_of in_X9
  have h := hF
  unfold F_X9_set at h
  refine lv_iload_n hx hb dX9_set_0 rfl (lv_at hl 1 rfl) ?_
  obtain ⟨x1, hx1, h⟩ := bd_e h
  try dsimp only at h
  refine k_SiU (n := 1) (As := [.int p0]) (rest := []) hx hb hml hown hts (c_X9_isHolder l G cI cJ cD cH s.heap.size p0 x1 hx1) gX9_set_X9_isHolder rfl rfl rfl (by decide +kernel) ⟨by first | exact Nat.le_of_ble_eq_true rfl | (simp only [headSpec]; omega), by first | exact Nat.le_of_ble_eq_true rfl | (simp only [headSpec]; omega)⟩ hK hP hD hS hA [] (by decide) rfl rfl rfl hl.1 (Nat.le_of_ble_eq_true rfl) dX9_set_1 ⟨Nat.zero_le _, Nat.zero_le _⟩ (fun hp1 H locs hP hS => ?_)
  refine lv_if_ne (tgt := 9) hx hb dX9_set_4 (by decide) (fun c2 => ?_) (fun c2 => ?_)
  rotate_left
  · have h := it_p h c2
    refine lv_iconst (v := (-1 : Int32)) hx hb dX9_set_7 (by decide) ?_
    have h9 := Option.some.inj h
    have e9 : (-1 : Int32) = r0 := congrArg (fun z9 => z9.1) h9
    rw [← e9]
    have e9 : a_t_items = w0 := congrArg (fun z9 => z9.2) h9
    rw [← e9]
    exact k_iret hx hb hr hlocks hP hS rfl dX9_set_8
  have h := it_n h c2
  refine lv_aload_n hx hb dX9_set_9 rfl (lv_at hl 0 rfl) ?_
  refine lv_iload_n hx hb dX9_set_10 rfl (lv_at hl 1 rfl) ?_
  obtain ⟨x3, hx3, h⟩ := bd_e h
  try dsimp only at h
  refine k_ViU (n := 1) (As := [.int p0]) (rest := []) hx hb hml hown hts (c_X9_rowless l G cI cJ cD cH H.size h_t h_t_held h_t_powers h_t_tree h_t_ahead h_t_behind h_t_before h_t_rows h_t_met h_t_metSizes h_t_chosen h_t_tape h_t_toldPowers h_t_powerPlaces h_t_toldTree h_t_splitPlaces h_t_layers h_t_paper h_t_numbers h_t_sizes h_t_heldLeaves h_t_items h_t_kept t_genus t_marks t_leaves t_splits t_done t_undone t_metMany t_treesSeen t_taped t_place t_isWrong t_toldGenus t_toldMarks t_isTree t_toldLeaves t_leavesPlace t_toldSplits t_isWhy t_papered t_isKept a_t_held p0 x3 hx3) gX9_set_X9_rowless rfl rfl rfl (by decide +kernel) ⟨by first | exact Nat.le_of_ble_eq_true rfl | (simp only [headSpec]; omega), by first | exact Nat.le_of_ble_eq_true rfl | (simp only [headSpec]; omega)⟩ hK hP hD hS hA [0, 1] (by decide) rfl (ci := 8) rfl rfl rfl rfl rfl hl.1 (Nat.le_of_ble_eq_true rfl) dX9_set_11 ⟨Nat.zero_le _, Nat.zero_le _⟩ (fun hp3 H locs hP hS => ?_)
  refine lv_if_eq (tgt := 23) hx hb dX9_set_14 (by decide) (fun c4 => ?_) (fun c4 => ?_)
  rotate_left
  · have h := it_n h c4
    refine lv_aload_n hx hb dX9_set_17 rfl (lv_at hl 0 rfl) ?_
    refine lv_iload_n hx hb dX9_set_18 rfl (lv_at hl 1 rfl) ?_
    obtain ⟨x9, hx9, h⟩ := bd_e h
    try dsimp only at h
    refine k_ViU (n := 1) (As := [.int p0]) (rest := []) hx hb hml hown hts (c_X9_rowless l G cI cJ cD cH H.size h_t h_t_held h_t_powers h_t_tree h_t_ahead h_t_behind h_t_before h_t_rows h_t_met h_t_metSizes h_t_chosen h_t_tape h_t_toldPowers h_t_powerPlaces h_t_toldTree h_t_splitPlaces h_t_layers h_t_paper h_t_numbers h_t_sizes h_t_heldLeaves h_t_items h_t_kept t_genus t_marks t_leaves t_splits t_done t_undone t_metMany t_treesSeen t_taped t_place t_isWrong t_toldGenus t_toldMarks t_isTree t_toldLeaves t_leavesPlace t_toldSplits t_isWhy t_papered t_isKept a_t_held p0 x9 hx9) gX9_set_X9_rowless rfl rfl rfl (by decide +kernel) ⟨by first | exact Nat.le_of_ble_eq_true rfl | (simp only [headSpec]; omega), by first | exact Nat.le_of_ble_eq_true rfl | (simp only [headSpec]; omega)⟩ hK hP hD hS hA [0, 1] (by decide) rfl (ci := 8) rfl rfl rfl rfl rfl hl.1 (Nat.le_of_ble_eq_true rfl) dX9_set_19 ⟨Nat.zero_le _, Nat.zero_le _⟩ (fun hp9 H locs hP hS => ?_)
    have h9 := Option.some.inj h
    have e9 : x9 = r0 := congrArg (fun z9 => z9.1) h9
    rw [← e9]
    have e9 : a_t_items = w0 := congrArg (fun z9 => z9.2) h9
    rw [← e9]
    exact k_iret hx hb hr hlocks hP hS rfl dX9_set_22
  have h := it_p h c4
  refine lv_iload_n hx hb dX9_set_23 rfl (lv_at hl 2 rfl) ?_
  refine lv_i2l (v := p1.toInt64) hx hb dX9_set_24 (by first | rfl | decide) ?_
  refine lv_lconst (v := (0 : Int64)) hx hb dX9_set_25 (by decide) ?_
  refine lv_aload_n hx hb dX9_set_26 rfl (lv_at hl 0 rfl) ?_
  refine va_get (D := G) (ci := 8) (v := .ref h_t_sizes) (C := RX9) (T := TX9) (N := 42) hx hb hts hinX9 hown hK hP 0 rfl rfl 37 (by decide) (hta _ mw_628) (fun _ h9 => h9) rfl dX9_set_27 ?_
  refine lv_iload_n hx hb dX9_set_30 rfl (lv_at hl 1 rfl) ?_
  obtain ⟨hn5, h⟩ := ck_e h
  refine va_iald hx hb hK hP 2 0 rfl rfl hn5 dX9_set_31 ?_
  refine lv_iconst (v := (1 : Int32)) hx hb dX9_set_32 (by decide) ?_
  refine lv_isub hx hb dX9_set_33 ?_
  refine lv_i2l (v := ((a_t_sizes p0.toNatClampNeg) - (1 : Int32)).toInt64) hx hb dX9_set_34 (by first | rfl | decide) ?_
  obtain ⟨x6, hx6, h⟩ := bd_e h
  try dsimp only at h
  refine k_SiU (n := 3) (As := [.long p1.toInt64, .long (0 : Int64), .long ((a_t_sizes p0.toNatClampNeg) - (1 : Int32)).toInt64]) (rest := []) hx hb hml hown hts (c_X9_in l G cI cJ cD cH H.size p1.toInt64 (0 : Int64) ((a_t_sizes p0.toNatClampNeg) - (1 : Int32)).toInt64 x6 hx6) gX9_set_X9_in rfl rfl rfl (by decide +kernel) ⟨by first | exact Nat.le_of_ble_eq_true rfl | (simp only [headSpec]; omega), by first | exact Nat.le_of_ble_eq_true rfl | (simp only [headSpec]; omega)⟩ hK hP hD hS hA [] (by decide) rfl rfl rfl hl.1 (Nat.le_of_ble_eq_true rfl) dX9_set_35 ⟨Nat.zero_le _, Nat.zero_le _⟩ (fun hp6 H locs hP hS => ?_)
  refine lv_if_ne (tgt := 44) hx hb dX9_set_38 (by decide) (fun c7 => ?_) (fun c7 => ?_)
  rotate_left
  · have h := it_p h c7
    refine lv_bipush (v := (-13 : Int32)) hx hb dX9_set_41 (by decide) ?_
    have h9 := Option.some.inj h
    have e9 : (-13 : Int32) = r0 := congrArg (fun z9 => z9.1) h9
    rw [← e9]
    have e9 : a_t_items = w0 := congrArg (fun z9 => z9.2) h9
    rw [← e9]
    exact k_iret hx hb hr hlocks hP hS rfl dX9_set_43
  have h := it_n h c7
  refine lv_aload_n hx hb dX9_set_44 rfl (lv_at hl 0 rfl) ?_
  refine va_get (D := G) (ci := 8) (v := .ref h_t_items) (C := RX9) (T := TX9) (N := 42) hx hb hts hinX9 hown hK hP 0 rfl rfl 39 (by decide) (hta _ mw_630) (fun _ h9 => h9) rfl dX9_set_45 ?_
  refine lv_bipush (v := (20 : Int32)) hx hb dX9_set_48 (by decide) ?_
  refine lv_iload_n hx hb dX9_set_50 rfl (lv_at hl 1 rfl) ?_
  refine lv_imul hx hb dX9_set_51 ?_
  refine lv_iload_n hx hb dX9_set_52 rfl (lv_at hl 2 rfl) ?_
  refine lv_iadd hx hb dX9_set_53 ?_
  refine lv_iload_n hx hb dX9_set_54 rfl (lv_at hl 3 rfl) ?_
  obtain ⟨hn8, h⟩ := ck_e h
  refine va_iast hx hb hK hP hD hS 3 0 rfl rfl hn8 dX9_set_55 (fun H locs hP hD hS => ?_)
  have hP : va_P G vwCl [(h_t, .inr (8, [.int t_genus, .int t_marks, .ref h_t_powers, .int t_leaves, .int t_splits, .ref h_t_tree, .ref h_t_ahead, .ref h_t_behind, .ref h_t_before, .int t_done, .int t_undone, .ref h_t_rows, .ref h_t_met, .ref h_t_metSizes, .int t_metMany, .int t_treesSeen, .ref h_t_chosen, .ref h_t_tape, .int t_taped, .int t_place, .int t_isWrong, .int t_toldGenus, .int t_toldMarks, .ref h_t_toldPowers, .ref h_t_powerPlaces, .int t_isTree, .int t_toldLeaves, .int t_leavesPlace, .int t_toldSplits, .ref h_t_toldTree, .ref h_t_splitPlaces, .ref h_t_layers, .int t_isWhy, .ref h_t_paper, .int t_papered, .ref h_t_held, .ref h_t_numbers, .ref h_t_sizes, .ref h_t_heldLeaves, .ref h_t_items, .ref h_t_kept, .int t_isKept])), (h_t_held, .inl (cI, 6, .inl a_t_held)), (h_t_sizes, .inl (cI, 6, .inl a_t_sizes)), (h_t_items, .inl (cI, 120, .inl (upd a_t_items (((20 : Int32) * p0) + p1).toNatClampNeg p2)))] H := hP
  have hD : va_D A [(h_t, .inr (8, [.int t_genus, .int t_marks, .ref h_t_powers, .int t_leaves, .int t_splits, .ref h_t_tree, .ref h_t_ahead, .ref h_t_behind, .ref h_t_before, .int t_done, .int t_undone, .ref h_t_rows, .ref h_t_met, .ref h_t_metSizes, .int t_metMany, .int t_treesSeen, .ref h_t_chosen, .ref h_t_tape, .int t_taped, .int t_place, .int t_isWrong, .int t_toldGenus, .int t_toldMarks, .ref h_t_toldPowers, .ref h_t_powerPlaces, .int t_isTree, .int t_toldLeaves, .int t_leavesPlace, .int t_toldSplits, .ref h_t_toldTree, .ref h_t_splitPlaces, .ref h_t_layers, .int t_isWhy, .ref h_t_paper, .int t_papered, .ref h_t_held, .ref h_t_numbers, .ref h_t_sizes, .ref h_t_heldLeaves, .ref h_t_items, .ref h_t_kept, .int t_isKept])), (h_t_held, .inl (cI, 6, .inl a_t_held)), (h_t_sizes, .inl (cI, 6, .inl a_t_sizes)), (h_t_items, .inl (cI, 120, .inl (upd a_t_items (((20 : Int32) * p0) + p1).toNatClampNeg p2)))] := hD
  refine lv_iconst (v := (1 : Int32)) hx hb dX9_set_56 (by decide) ?_
  have h9 := Option.some.inj h
  have e9 : (1 : Int32) = r0 := congrArg (fun z9 => z9.1) h9
  rw [← e9]
  have e9 : (upd a_t_items (((20 : Int32) * p0) + p1).toNatClampNeg p2) = w0 := congrArg (fun z9 => z9.2) h9
  rw [← e9]
  exact k_iret hx hb hr hlocks hP hS rfl dX9_set_57

/-! X9_get -/
set_option maxHeartbeats 4000000 in
set_option maxRecDepth 100000 in
theorem c_X9_get (l : Launch) (G : va_G) (cI cJ cD cH : ClassId) (sz : Nat) (h_t : Nat) (h_t_held : Nat) (h_t_sizes : Nat) (h_t_items : Nat) (h_t_powers : Nat) (h_t_tree : Nat) (h_t_ahead : Nat) (h_t_behind : Nat) (h_t_before : Nat) (h_t_rows : Nat) (h_t_met : Nat) (h_t_metSizes : Nat) (h_t_chosen : Nat) (h_t_tape : Nat) (h_t_toldPowers : Nat) (h_t_powerPlaces : Nat) (h_t_toldTree : Nat) (h_t_splitPlaces : Nat) (h_t_layers : Nat) (h_t_paper : Nat) (h_t_numbers : Nat) (h_t_heldLeaves : Nat) (h_t_kept : Nat) (t_genus : Int32) (t_marks : Int32) (t_leaves : Int32) (t_splits : Int32) (t_done : Int32) (t_undone : Int32) (t_metMany : Int32) (t_treesSeen : Int32) (t_taped : Int32) (t_place : Int32) (t_isWrong : Int32) (t_toldGenus : Int32) (t_toldMarks : Int32) (t_isTree : Int32) (t_toldLeaves : Int32) (t_leavesPlace : Int32) (t_toldSplits : Int32) (t_isWhy : Int32) (t_papered : Int32) (t_isKept : Int32) (a_t_held : Nat → Int32) (a_t_sizes : Nat → Int32) (a_t_items : Nat → Int32) (p0 : Int32) (p1 : Int32) (r0 : Int64) (hF : F_X9_get a_t_held a_t_sizes a_t_items p0 p1 = some r0) : Met l yX9_get wsX9_get ({ frames := 2, cells := 0, slots := 0, locals := 45 }) (k_pre G (k_T cI cJ cD cH) [(h_t, .inr (8, [.int t_genus, .int t_marks, .ref h_t_powers, .int t_leaves, .int t_splits, .ref h_t_tree, .ref h_t_ahead, .ref h_t_behind, .ref h_t_before, .int t_done, .int t_undone, .ref h_t_rows, .ref h_t_met, .ref h_t_metSizes, .int t_metMany, .int t_treesSeen, .ref h_t_chosen, .ref h_t_tape, .int t_taped, .int t_place, .int t_isWrong, .int t_toldGenus, .int t_toldMarks, .ref h_t_toldPowers, .ref h_t_powerPlaces, .int t_isTree, .int t_toldLeaves, .int t_leavesPlace, .int t_toldSplits, .ref h_t_toldTree, .ref h_t_splitPlaces, .ref h_t_layers, .int t_isWhy, .ref h_t_paper, .int t_papered, .ref h_t_held, .ref h_t_numbers, .ref h_t_sizes, .ref h_t_heldLeaves, .ref h_t_items, .ref h_t_kept, .int t_isKept])), (h_t_held, .inl (cI, 6, .inl a_t_held)), (h_t_sizes, .inl (cI, 6, .inl a_t_sizes)), (h_t_items, .inl (cI, 120, .inl a_t_items))] sz [.ref h_t, .int p0, .int p1]) (va_Ql (fun r (_ : Unit) => r = r0 ∧ True) (fun _ t => va_P G vwCl [(h_t, .inr (8, [.int t_genus, .int t_marks, .ref h_t_powers, .int t_leaves, .int t_splits, .ref h_t_tree, .ref h_t_ahead, .ref h_t_behind, .ref h_t_before, .int t_done, .int t_undone, .ref h_t_rows, .ref h_t_met, .ref h_t_metSizes, .int t_metMany, .int t_treesSeen, .ref h_t_chosen, .ref h_t_tape, .int t_taped, .int t_place, .int t_isWrong, .int t_toldGenus, .int t_toldMarks, .ref h_t_toldPowers, .ref h_t_powerPlaces, .int t_isTree, .int t_toldLeaves, .int t_leavesPlace, .int t_toldSplits, .ref h_t_toldTree, .ref h_t_splitPlaces, .ref h_t_layers, .int t_isWhy, .ref h_t_paper, .int t_papered, .ref h_t_held, .ref h_t_numbers, .ref h_t_sizes, .ref h_t_heldLeaves, .ref h_t_items, .ref h_t_kept, .int t_isKept])), (h_t_held, .inl (cI, 6, .inl a_t_held)), (h_t_sizes, .inl (cI, 6, .inl a_t_sizes)), (h_t_items, .inl (cI, 120, .inl a_t_items))] t.heap) (va_A [(h_t, .inr (8, [.int t_genus, .int t_marks, .ref h_t_powers, .int t_leaves, .int t_splits, .ref h_t_tree, .ref h_t_ahead, .ref h_t_behind, .ref h_t_before, .int t_done, .int t_undone, .ref h_t_rows, .ref h_t_met, .ref h_t_metSizes, .int t_metMany, .int t_treesSeen, .ref h_t_chosen, .ref h_t_tape, .int t_taped, .int t_place, .int t_isWrong, .int t_toldGenus, .int t_toldMarks, .ref h_t_toldPowers, .ref h_t_powerPlaces, .int t_isTree, .int t_toldLeaves, .int t_leavesPlace, .int t_toldSplits, .ref h_t_toldTree, .ref h_t_splitPlaces, .ref h_t_layers, .int t_isWhy, .ref h_t_paper, .int t_papered, .ref h_t_held, .ref h_t_numbers, .ref h_t_sizes, .ref h_t_heldLeaves, .ref h_t_items, .ref h_t_kept, .int t_isKept])), (h_t_held, .inl (cI, 6, .inl a_t_held)), (h_t_sizes, .inl (cI, 6, .inl a_t_sizes)), (h_t_items, .inl (cI, 120, .inl a_t_items))] sz)) 0 0 (va_A [(h_t, .inr (8, [.int t_genus, .int t_marks, .ref h_t_powers, .int t_leaves, .int t_splits, .ref h_t_tree, .ref h_t_ahead, .ref h_t_behind, .ref h_t_before, .int t_done, .int t_undone, .ref h_t_rows, .ref h_t_met, .ref h_t_metSizes, .int t_metMany, .int t_treesSeen, .ref h_t_chosen, .ref h_t_tape, .int t_taped, .int t_place, .int t_isWrong, .int t_toldGenus, .int t_toldMarks, .ref h_t_toldPowers, .ref h_t_powerPlaces, .int t_isTree, .int t_toldLeaves, .int t_leavesPlace, .int t_toldSplits, .ref h_t_toldTree, .ref h_t_splitPlaces, .ref h_t_layers, .int t_isWhy, .ref h_t_paper, .int t_papered, .ref h_t_held, .ref h_t_numbers, .ref h_t_sizes, .ref h_t_heldLeaves, .ref h_t_items, .ref h_t_kept, .int t_isKept])), (h_t_held, .inl (cI, 6, .inl a_t_held)), (h_t_sizes, .inl (cI, 6, .inl a_t_sizes)), (h_t_items, .inl (cI, 120, .inl a_t_items))] sz) := by
  refine Met.ofW (cc := cX9_get) (maxL := 3) (ret := (some .long)) (by decide) rfl ?_
  intro p e s m args below meth c s₁ B hml hv
  obtain ⟨rfl, hsz, hP, hK, hD0⟩ := hv
  have hx := B.exec
  have hb := B.bytes
  have hr := B.returns
  have hts := atoms_spec (ws := wsX9_get) B.pre
  have hta : ∀ w ∈ wA, w.before ([.ref h_t, .int p0, .int p1] : List Value).toArray s = true := hta_of hts
  have hown : s.vm.findClass RX9 = some m.cls := findClass_of_methodNamed B.named
  have hlocks := B.notSynchronized
  subst hsz
  have hD := hD0.self (sz := s.heap.size)
  generalize hAe : va_A [(h_t, .inr (8, [.int t_genus, .int t_marks, .ref h_t_powers, .int t_leaves, .int t_splits, .ref h_t_tree, .ref h_t_ahead, .ref h_t_behind, .ref h_t_before, .int t_done, .int t_undone, .ref h_t_rows, .ref h_t_met, .ref h_t_metSizes, .int t_metMany, .int t_treesSeen, .ref h_t_chosen, .ref h_t_tape, .int t_taped, .int t_place, .int t_isWrong, .int t_toldGenus, .int t_toldMarks, .ref h_t_toldPowers, .ref h_t_powerPlaces, .int t_isTree, .int t_toldLeaves, .int t_leavesPlace, .int t_toldSplits, .ref h_t_toldTree, .ref h_t_splitPlaces, .ref h_t_layers, .int t_isWhy, .ref h_t_paper, .int t_papered, .ref h_t_held, .ref h_t_numbers, .ref h_t_sizes, .ref h_t_heldLeaves, .ref h_t_items, .ref h_t_kept, .int t_isKept])), (h_t_held, .inl (cI, 6, .inl a_t_held)), (h_t_sizes, .inl (cI, 6, .inl a_t_sizes)), (h_t_items, .inl (cI, 120, .inl a_t_items))] s.heap.size = A at hD ⊢
  have hA : ∀ q : Nat, s.heap.size ≤ q → A q := fun q h => by rw [← hAe]; exact Or.inr h
  have hS : va_S A s.heap s.heap [] := va_S.rf
  have hl := lv_entry ([.ref h_t, .int p0, .int p1]) (n := 3) (Nat.le_of_ble_eq_true rfl)
  rw [lg_entry_eq]
  generalize (lg_sl ([.ref h_t, .int p0, .int p1]) ++ List.replicate (3 - (lg_sl ([.ref h_t, .int p0, .int p1])).length) Slot.unset).toArray = ls at hl ⊢
  have hl : lv_has ls 3 [(0, .ref h_t), (1, .int p0), (2, .int p1)] := hl
  have hinX9 : ∀ w ∈ wsX90, w ∈ wsX9_get := hin_of in_X9
  have h := hF
  unfold F_X9_get at h
  refine lv_iload_n hx hb dX9_get_0 rfl (lv_at hl 1 rfl) ?_
  obtain ⟨x1, hx1, h⟩ := bd_e h
  try dsimp only at h
  refine k_SiU (n := 1) (As := [.int p0]) (rest := []) hx hb hml hown hts (c_X9_isHolder l G cI cJ cD cH s.heap.size p0 x1 hx1) gX9_get_X9_isHolder rfl rfl rfl (by decide +kernel) ⟨by first | exact Nat.le_of_ble_eq_true rfl | (simp only [headSpec]; omega), by first | exact Nat.le_of_ble_eq_true rfl | (simp only [headSpec]; omega)⟩ hK hP hD hS hA [] (by decide) rfl rfl rfl hl.1 (Nat.le_of_ble_eq_true rfl) dX9_get_1 ⟨Nat.zero_le _, Nat.zero_le _⟩ (fun hp1 H locs hP hS => ?_)
  refine lv_if_eq (tgt := 50) hx hb dX9_get_4 (by decide) (fun c2 => ?_) (fun c2 => ?_)
  · have h := it_p h c2
    refine lv_ldc2 (v := (-9223372036854775808 : Int64)) hx hb hown (hta _ mw_709) dX9_get_50 ?_
    have h9 := Option.some.inj h
    have e9 : (-9223372036854775808 : Int64) = r0 := congrArg (fun z9 => z9) h9
    rw [← e9]
    exact k_lret hx hb hr hlocks hP hS rfl dX9_get_53
  have h := it_n h c2
  refine lv_aload_n hx hb dX9_get_7 rfl (lv_at hl 0 rfl) ?_
  refine va_get (D := G) (ci := 8) (v := .ref h_t_held) (C := RX9) (T := TX9) (N := 42) hx hb hts hinX9 hown hK hP 0 rfl rfl 35 (by decide) (hta _ mw_626) (fun _ h9 => h9) rfl dX9_get_8 ?_
  refine lv_iload_n hx hb dX9_get_11 rfl (lv_at hl 1 rfl) ?_
  obtain ⟨hn3, h⟩ := ck_e h
  refine va_iald hx hb hK hP 1 0 rfl rfl hn3 dX9_get_12 ?_
  refine lv_iconst (v := (3 : Int32)) hx hb dX9_get_13 (by decide) ?_
  refine lv_icmp_ne (tgt := 50) hx hb dX9_get_14 (by decide) (fun c4 => ?_) (fun c4 => ?_)
  · have h := it_n h c4
    refine lv_ldc2 (v := (-9223372036854775808 : Int64)) hx hb hown (hta _ mw_709) dX9_get_50 ?_
    have h9 := Option.some.inj h
    have e9 : (-9223372036854775808 : Int64) = r0 := congrArg (fun z9 => z9) h9
    rw [← e9]
    exact k_lret hx hb hr hlocks hP hS rfl dX9_get_53
  have h := it_p h c4
  refine lv_iload_n hx hb dX9_get_17 rfl (lv_at hl 2 rfl) ?_
  refine lv_i2l (v := p1.toInt64) hx hb dX9_get_18 (by first | rfl | decide) ?_
  refine lv_lconst (v := (0 : Int64)) hx hb dX9_get_19 (by decide) ?_
  refine lv_aload_n hx hb dX9_get_20 rfl (lv_at hl 0 rfl) ?_
  refine va_get (D := G) (ci := 8) (v := .ref h_t_sizes) (C := RX9) (T := TX9) (N := 42) hx hb hts hinX9 hown hK hP 0 rfl rfl 37 (by decide) (hta _ mw_628) (fun _ h9 => h9) rfl dX9_get_21 ?_
  refine lv_iload_n hx hb dX9_get_24 rfl (lv_at hl 1 rfl) ?_
  obtain ⟨hn5, h⟩ := ck_e h
  refine va_iald hx hb hK hP 2 0 rfl rfl hn5 dX9_get_25 ?_
  refine lv_iconst (v := (1 : Int32)) hx hb dX9_get_26 (by decide) ?_
  refine lv_isub hx hb dX9_get_27 ?_
  refine lv_i2l (v := ((a_t_sizes p0.toNatClampNeg) - (1 : Int32)).toInt64) hx hb dX9_get_28 (by first | rfl | decide) ?_
  obtain ⟨x6, hx6, h⟩ := bd_e h
  try dsimp only at h
  refine k_SiU (n := 3) (As := [.long p1.toInt64, .long (0 : Int64), .long ((a_t_sizes p0.toNatClampNeg) - (1 : Int32)).toInt64]) (rest := []) hx hb hml hown hts (c_X9_in l G cI cJ cD cH H.size p1.toInt64 (0 : Int64) ((a_t_sizes p0.toNatClampNeg) - (1 : Int32)).toInt64 x6 hx6) gX9_get_X9_in rfl rfl rfl (by decide +kernel) ⟨by first | exact Nat.le_of_ble_eq_true rfl | (simp only [headSpec]; omega), by first | exact Nat.le_of_ble_eq_true rfl | (simp only [headSpec]; omega)⟩ hK hP hD hS hA [] (by decide) rfl rfl rfl hl.1 (Nat.le_of_ble_eq_true rfl) dX9_get_29 ⟨Nat.zero_le _, Nat.zero_le _⟩ (fun hp6 H locs hP hS => ?_)
  refine lv_if_eq (tgt := 50) hx hb dX9_get_32 (by decide) (fun c7 => ?_) (fun c7 => ?_)
  · have h := it_p h c7
    refine lv_ldc2 (v := (-9223372036854775808 : Int64)) hx hb hown (hta _ mw_709) dX9_get_50 ?_
    have h9 := Option.some.inj h
    have e9 : (-9223372036854775808 : Int64) = r0 := congrArg (fun z9 => z9) h9
    rw [← e9]
    exact k_lret hx hb hr hlocks hP hS rfl dX9_get_53
  have h := it_n h c7
  refine lv_aload_n hx hb dX9_get_35 rfl (lv_at hl 0 rfl) ?_
  refine va_get (D := G) (ci := 8) (v := .ref h_t_items) (C := RX9) (T := TX9) (N := 42) hx hb hts hinX9 hown hK hP 0 rfl rfl 39 (by decide) (hta _ mw_630) (fun _ h9 => h9) rfl dX9_get_36 ?_
  refine lv_bipush (v := (20 : Int32)) hx hb dX9_get_39 (by decide) ?_
  refine lv_iload_n hx hb dX9_get_41 rfl (lv_at hl 1 rfl) ?_
  refine lv_imul hx hb dX9_get_42 ?_
  refine lv_iload_n hx hb dX9_get_43 rfl (lv_at hl 2 rfl) ?_
  refine lv_iadd hx hb dX9_get_44 ?_
  obtain ⟨hn8, h⟩ := ck_e h
  refine va_iald hx hb hK hP 3 0 rfl rfl hn8 dX9_get_45 ?_
  refine lv_i2l (v := (a_t_items (((20 : Int32) * p0) + p1).toNatClampNeg).toInt64) hx hb dX9_get_46 (by first | rfl | decide) ?_
  refine lv_goto (tgt := 53) hx hb dX9_get_47 (by decide) ?_
  have h9 := Option.some.inj h
  have e9 : (a_t_items (((20 : Int32) * p0) + p1).toNatClampNeg).toInt64 = r0 := congrArg (fun z9 => z9) h9
  rw [← e9]
  exact k_lret hx hb hr hlocks hP hS rfl dX9_get_53

/-! X9_judge -/
set_option maxHeartbeats 4000000 in
set_option maxRecDepth 100000 in
theorem c_X9_judge (l : Launch) (G : va_G) (cI cJ cD cH : ClassId) (sz : Nat) (h_t : Nat) (h_t_held : Nat) (h_t_sizes : Nat) (h_t_items : Nat) (h_t_tree : Nat) (h_t_powers : Nat) (h_t_ahead : Nat) (h_t_behind : Nat) (h_t_before : Nat) (h_t_rows : Nat) (h_t_met : Nat) (h_t_metSizes : Nat) (h_t_chosen : Nat) (h_t_tape : Nat) (h_t_toldPowers : Nat) (h_t_powerPlaces : Nat) (h_t_toldTree : Nat) (h_t_splitPlaces : Nat) (h_t_layers : Nat) (h_t_paper : Nat) (h_t_numbers : Nat) (h_t_heldLeaves : Nat) (h_t_kept : Nat) (t_genus : Int32) (t_marks : Int32) (t_leaves : Int32) (t_splits : Int32) (t_done : Int32) (t_undone : Int32) (t_metMany : Int32) (t_treesSeen : Int32) (t_taped : Int32) (t_place : Int32) (t_isWrong : Int32) (t_toldGenus : Int32) (t_toldMarks : Int32) (t_isTree : Int32) (t_toldLeaves : Int32) (t_leavesPlace : Int32) (t_toldSplits : Int32) (t_isWhy : Int32) (t_papered : Int32) (t_isKept : Int32) (a_t_held : Nat → Int32) (a_t_sizes : Nat → Int32) (a_t_items : Nat → Int32) (a_t_tree : Nat → Int32) (p0 : Int32) (r0 : Int32) (hF : F_X9_judge t_splits a_t_held a_t_sizes a_t_items a_t_tree p0 = some r0) : Met l yX9_judge wsX9_judge ({ frames := 2, cells := 0, slots := 0, locals := 45 }) (k_pre G (k_T cI cJ cD cH) [(h_t, .inr (8, [.int t_genus, .int t_marks, .ref h_t_powers, .int t_leaves, .int t_splits, .ref h_t_tree, .ref h_t_ahead, .ref h_t_behind, .ref h_t_before, .int t_done, .int t_undone, .ref h_t_rows, .ref h_t_met, .ref h_t_metSizes, .int t_metMany, .int t_treesSeen, .ref h_t_chosen, .ref h_t_tape, .int t_taped, .int t_place, .int t_isWrong, .int t_toldGenus, .int t_toldMarks, .ref h_t_toldPowers, .ref h_t_powerPlaces, .int t_isTree, .int t_toldLeaves, .int t_leavesPlace, .int t_toldSplits, .ref h_t_toldTree, .ref h_t_splitPlaces, .ref h_t_layers, .int t_isWhy, .ref h_t_paper, .int t_papered, .ref h_t_held, .ref h_t_numbers, .ref h_t_sizes, .ref h_t_heldLeaves, .ref h_t_items, .ref h_t_kept, .int t_isKept])), (h_t_held, .inl (cI, 6, .inl a_t_held)), (h_t_sizes, .inl (cI, 6, .inl a_t_sizes)), (h_t_items, .inl (cI, 120, .inl a_t_items)), (h_t_tree, .inl (cI, 3, .inl a_t_tree))] sz [.ref h_t, .int p0]) (va_Qi (fun r (_ : Unit) => r = r0 ∧ True) (fun _ t => va_P G vwCl [(h_t, .inr (8, [.int t_genus, .int t_marks, .ref h_t_powers, .int t_leaves, .int t_splits, .ref h_t_tree, .ref h_t_ahead, .ref h_t_behind, .ref h_t_before, .int t_done, .int t_undone, .ref h_t_rows, .ref h_t_met, .ref h_t_metSizes, .int t_metMany, .int t_treesSeen, .ref h_t_chosen, .ref h_t_tape, .int t_taped, .int t_place, .int t_isWrong, .int t_toldGenus, .int t_toldMarks, .ref h_t_toldPowers, .ref h_t_powerPlaces, .int t_isTree, .int t_toldLeaves, .int t_leavesPlace, .int t_toldSplits, .ref h_t_toldTree, .ref h_t_splitPlaces, .ref h_t_layers, .int t_isWhy, .ref h_t_paper, .int t_papered, .ref h_t_held, .ref h_t_numbers, .ref h_t_sizes, .ref h_t_heldLeaves, .ref h_t_items, .ref h_t_kept, .int t_isKept])), (h_t_held, .inl (cI, 6, .inl a_t_held)), (h_t_sizes, .inl (cI, 6, .inl a_t_sizes)), (h_t_items, .inl (cI, 120, .inl a_t_items)), (h_t_tree, .inl (cI, 3, .inl a_t_tree))] t.heap) (va_A [(h_t, .inr (8, [.int t_genus, .int t_marks, .ref h_t_powers, .int t_leaves, .int t_splits, .ref h_t_tree, .ref h_t_ahead, .ref h_t_behind, .ref h_t_before, .int t_done, .int t_undone, .ref h_t_rows, .ref h_t_met, .ref h_t_metSizes, .int t_metMany, .int t_treesSeen, .ref h_t_chosen, .ref h_t_tape, .int t_taped, .int t_place, .int t_isWrong, .int t_toldGenus, .int t_toldMarks, .ref h_t_toldPowers, .ref h_t_powerPlaces, .int t_isTree, .int t_toldLeaves, .int t_leavesPlace, .int t_toldSplits, .ref h_t_toldTree, .ref h_t_splitPlaces, .ref h_t_layers, .int t_isWhy, .ref h_t_paper, .int t_papered, .ref h_t_held, .ref h_t_numbers, .ref h_t_sizes, .ref h_t_heldLeaves, .ref h_t_items, .ref h_t_kept, .int t_isKept])), (h_t_held, .inl (cI, 6, .inl a_t_held)), (h_t_sizes, .inl (cI, 6, .inl a_t_sizes)), (h_t_items, .inl (cI, 120, .inl a_t_items)), (h_t_tree, .inl (cI, 3, .inl a_t_tree))] sz)) 0 0 (va_A [(h_t, .inr (8, [.int t_genus, .int t_marks, .ref h_t_powers, .int t_leaves, .int t_splits, .ref h_t_tree, .ref h_t_ahead, .ref h_t_behind, .ref h_t_before, .int t_done, .int t_undone, .ref h_t_rows, .ref h_t_met, .ref h_t_metSizes, .int t_metMany, .int t_treesSeen, .ref h_t_chosen, .ref h_t_tape, .int t_taped, .int t_place, .int t_isWrong, .int t_toldGenus, .int t_toldMarks, .ref h_t_toldPowers, .ref h_t_powerPlaces, .int t_isTree, .int t_toldLeaves, .int t_leavesPlace, .int t_toldSplits, .ref h_t_toldTree, .ref h_t_splitPlaces, .ref h_t_layers, .int t_isWhy, .ref h_t_paper, .int t_papered, .ref h_t_held, .ref h_t_numbers, .ref h_t_sizes, .ref h_t_heldLeaves, .ref h_t_items, .ref h_t_kept, .int t_isKept])), (h_t_held, .inl (cI, 6, .inl a_t_held)), (h_t_sizes, .inl (cI, 6, .inl a_t_sizes)), (h_t_items, .inl (cI, 120, .inl a_t_items)), (h_t_tree, .inl (cI, 3, .inl a_t_tree))] sz) := by
  refine Met.ofW (cc := cX9_judge) (maxL := 3) (ret := (some .int)) (by decide) rfl ?_
  intro p e s m args below meth c s₁ B hml hv
  obtain ⟨rfl, hsz, hP, hK, hD0⟩ := hv
  have hx := B.exec
  have hb := B.bytes
  have hr := B.returns
  have hts := atoms_spec (ws := wsX9_judge) B.pre
  have hta : ∀ w ∈ wA, w.before ([.ref h_t, .int p0] : List Value).toArray s = true := hta_of hts
  have hown : s.vm.findClass RX9 = some m.cls := findClass_of_methodNamed B.named
  have hlocks := B.notSynchronized
  subst hsz
  have hD := hD0.self (sz := s.heap.size)
  generalize hAe : va_A [(h_t, .inr (8, [.int t_genus, .int t_marks, .ref h_t_powers, .int t_leaves, .int t_splits, .ref h_t_tree, .ref h_t_ahead, .ref h_t_behind, .ref h_t_before, .int t_done, .int t_undone, .ref h_t_rows, .ref h_t_met, .ref h_t_metSizes, .int t_metMany, .int t_treesSeen, .ref h_t_chosen, .ref h_t_tape, .int t_taped, .int t_place, .int t_isWrong, .int t_toldGenus, .int t_toldMarks, .ref h_t_toldPowers, .ref h_t_powerPlaces, .int t_isTree, .int t_toldLeaves, .int t_leavesPlace, .int t_toldSplits, .ref h_t_toldTree, .ref h_t_splitPlaces, .ref h_t_layers, .int t_isWhy, .ref h_t_paper, .int t_papered, .ref h_t_held, .ref h_t_numbers, .ref h_t_sizes, .ref h_t_heldLeaves, .ref h_t_items, .ref h_t_kept, .int t_isKept])), (h_t_held, .inl (cI, 6, .inl a_t_held)), (h_t_sizes, .inl (cI, 6, .inl a_t_sizes)), (h_t_items, .inl (cI, 120, .inl a_t_items)), (h_t_tree, .inl (cI, 3, .inl a_t_tree))] s.heap.size = A at hD ⊢
  have hA : ∀ q : Nat, s.heap.size ≤ q → A q := fun q h => by rw [← hAe]; exact Or.inr h
  have hS : va_S A s.heap s.heap [] := va_S.rf
  have hl := lv_entry ([.ref h_t, .int p0]) (n := 3) (Nat.le_of_ble_eq_true rfl)
  rw [lg_entry_eq]
  generalize (lg_sl ([.ref h_t, .int p0]) ++ List.replicate (3 - (lg_sl ([.ref h_t, .int p0])).length) Slot.unset).toArray = ls at hl ⊢
  have hl : lv_has ls 3 [(0, .ref h_t), (1, .int p0)] := hl
  have hinX9 : ∀ w ∈ wsX90, w ∈ wsX9_judge := hin_of in_X9
  have h := hF
  unfold F_X9_judge at h
  refine lv_iload_n hx hb dX9_judge_0 rfl (lv_at hl 1 rfl) ?_
  obtain ⟨x1, hx1, h⟩ := bd_e h
  try dsimp only at h
  refine k_SiU (n := 1) (As := [.int p0]) (rest := []) hx hb hml hown hts (c_X9_isHolder l G cI cJ cD cH s.heap.size p0 x1 hx1) gX9_judge_X9_isHolder rfl rfl rfl (by decide +kernel) ⟨by first | exact Nat.le_of_ble_eq_true rfl | (simp only [headSpec]; omega), by first | exact Nat.le_of_ble_eq_true rfl | (simp only [headSpec]; omega)⟩ hK hP hD hS hA [] (by decide) rfl rfl rfl hl.1 (Nat.le_of_ble_eq_true rfl) dX9_judge_1 ⟨Nat.zero_le _, Nat.zero_le _⟩ (fun hp1 H locs hP hS => ?_)
  refine lv_if_ne (tgt := 9) hx hb dX9_judge_4 (by decide) (fun c2 => ?_) (fun c2 => ?_)
  rotate_left
  · have h := it_p h c2
    refine lv_iconst (v := (-1 : Int32)) hx hb dX9_judge_7 (by decide) ?_
    have h9 := Option.some.inj h
    have e9 : (-1 : Int32) = r0 := congrArg (fun z9 => z9) h9
    rw [← e9]
    exact k_iret hx hb hr hlocks hP hS rfl dX9_judge_8
  have h := it_n h c2
  refine lv_aload_n hx hb dX9_judge_9 rfl (lv_at hl 0 rfl) ?_
  refine lv_iload_n hx hb dX9_judge_10 rfl (lv_at hl 1 rfl) ?_
  obtain ⟨x3, hx3, h⟩ := bd_e h
  try dsimp only at h
  refine k_ViU (n := 1) (As := [.int p0]) (rest := []) hx hb hml hown hts (c_X9_rowless l G cI cJ cD cH H.size h_t h_t_held h_t_powers h_t_tree h_t_ahead h_t_behind h_t_before h_t_rows h_t_met h_t_metSizes h_t_chosen h_t_tape h_t_toldPowers h_t_powerPlaces h_t_toldTree h_t_splitPlaces h_t_layers h_t_paper h_t_numbers h_t_sizes h_t_heldLeaves h_t_items h_t_kept t_genus t_marks t_leaves t_splits t_done t_undone t_metMany t_treesSeen t_taped t_place t_isWrong t_toldGenus t_toldMarks t_isTree t_toldLeaves t_leavesPlace t_toldSplits t_isWhy t_papered t_isKept a_t_held p0 x3 hx3) gX9_judge_X9_rowless rfl rfl rfl (by decide +kernel) ⟨by first | exact Nat.le_of_ble_eq_true rfl | (simp only [headSpec]; omega), by first | exact Nat.le_of_ble_eq_true rfl | (simp only [headSpec]; omega)⟩ hK hP hD hS hA [0, 1] (by decide) rfl (ci := 8) rfl rfl rfl rfl rfl hl.1 (Nat.le_of_ble_eq_true rfl) dX9_judge_11 ⟨Nat.zero_le _, Nat.zero_le _⟩ (fun hp3 H locs hP hS => ?_)
  refine lv_if_eq (tgt := 23) hx hb dX9_judge_14 (by decide) (fun c4 => ?_) (fun c4 => ?_)
  rotate_left
  · have h := it_n h c4
    refine lv_aload_n hx hb dX9_judge_17 rfl (lv_at hl 0 rfl) ?_
    refine lv_iload_n hx hb dX9_judge_18 rfl (lv_at hl 1 rfl) ?_
    obtain ⟨x14, hx14, h⟩ := bd_e h
    try dsimp only at h
    refine k_ViU (n := 1) (As := [.int p0]) (rest := []) hx hb hml hown hts (c_X9_rowless l G cI cJ cD cH H.size h_t h_t_held h_t_powers h_t_tree h_t_ahead h_t_behind h_t_before h_t_rows h_t_met h_t_metSizes h_t_chosen h_t_tape h_t_toldPowers h_t_powerPlaces h_t_toldTree h_t_splitPlaces h_t_layers h_t_paper h_t_numbers h_t_sizes h_t_heldLeaves h_t_items h_t_kept t_genus t_marks t_leaves t_splits t_done t_undone t_metMany t_treesSeen t_taped t_place t_isWrong t_toldGenus t_toldMarks t_isTree t_toldLeaves t_leavesPlace t_toldSplits t_isWhy t_papered t_isKept a_t_held p0 x14 hx14) gX9_judge_X9_rowless rfl rfl rfl (by decide +kernel) ⟨by first | exact Nat.le_of_ble_eq_true rfl | (simp only [headSpec]; omega), by first | exact Nat.le_of_ble_eq_true rfl | (simp only [headSpec]; omega)⟩ hK hP hD hS hA [0, 1] (by decide) rfl (ci := 8) rfl rfl rfl rfl rfl hl.1 (Nat.le_of_ble_eq_true rfl) dX9_judge_19 ⟨Nat.zero_le _, Nat.zero_le _⟩ (fun hp14 H locs hP hS => ?_)
    have h9 := Option.some.inj h
    have e9 : x14 = r0 := congrArg (fun z9 => z9) h9
    rw [← e9]
    exact k_iret hx hb hr hlocks hP hS rfl dX9_judge_22
  have h := it_p h c4
  refine lv_iconst (v := (0 : Int32)) hx hb dX9_judge_23 (by decide) ?_
  refine lv_istore_n (lv' := [(2, .int (0 : Int32)), (0, .ref h_t), (1, .int p0)]) hx hb dX9_judge_24 rfl hl (by decide) rfl (fun ls hl => ?_)
  have hK_X9_judge_25_89 : ∀ (H : Heap) (locs : List Loc) (ls : Array Slot), va_P G vwCl [(h_t, .inr (8, [.int t_genus, .int t_marks, .ref h_t_powers, .int t_leaves, .int t_splits, .ref h_t_tree, .ref h_t_ahead, .ref h_t_behind, .ref h_t_before, .int t_done, .int t_undone, .ref h_t_rows, .ref h_t_met, .ref h_t_metSizes, .int t_metMany, .int t_treesSeen, .ref h_t_chosen, .ref h_t_tape, .int t_taped, .int t_place, .int t_isWrong, .int t_toldGenus, .int t_toldMarks, .ref h_t_toldPowers, .ref h_t_powerPlaces, .int t_isTree, .int t_toldLeaves, .int t_leavesPlace, .int t_toldSplits, .ref h_t_toldTree, .ref h_t_splitPlaces, .ref h_t_layers, .int t_isWhy, .ref h_t_paper, .int t_papered, .ref h_t_held, .ref h_t_numbers, .ref h_t_sizes, .ref h_t_heldLeaves, .ref h_t_items, .ref h_t_kept, .int t_isKept])), (h_t_held, .inl (cI, 6, .inl a_t_held)), (h_t_sizes, .inl (cI, 6, .inl a_t_sizes)), (h_t_items, .inl (cI, 120, .inl a_t_items)), (h_t_tree, .inl (cI, 3, .inl a_t_tree))] H → va_D A [(h_t, .inr (8, [.int t_genus, .int t_marks, .ref h_t_powers, .int t_leaves, .int t_splits, .ref h_t_tree, .ref h_t_ahead, .ref h_t_behind, .ref h_t_before, .int t_done, .int t_undone, .ref h_t_rows, .ref h_t_met, .ref h_t_metSizes, .int t_metMany, .int t_treesSeen, .ref h_t_chosen, .ref h_t_tape, .int t_taped, .int t_place, .int t_isWrong, .int t_toldGenus, .int t_toldMarks, .ref h_t_toldPowers, .ref h_t_powerPlaces, .int t_isTree, .int t_toldLeaves, .int t_leavesPlace, .int t_toldSplits, .ref h_t_toldTree, .ref h_t_splitPlaces, .ref h_t_layers, .int t_isWhy, .ref h_t_paper, .int t_papered, .ref h_t_held, .ref h_t_numbers, .ref h_t_sizes, .ref h_t_heldLeaves, .ref h_t_items, .ref h_t_kept, .int t_isKept])), (h_t_held, .inl (cI, 6, .inl a_t_held)), (h_t_sizes, .inl (cI, 6, .inl a_t_sizes)), (h_t_items, .inl (cI, 120, .inl a_t_items)), (h_t_tree, .inl (cI, 3, .inl a_t_tree))] → va_S A s.heap H locs → lv_has ls 3 [] → K_X9_judge_25_89 = some r0 → W p l e (headSpec wsX9_judge ({ frames := 2, cells := 0, slots := 0, locals := 45 })).room s m ([.ref h_t, .int p0] : List Value).toArray below meth c H locs 0 0 (MQ below (va_Qi (fun r (_ : Unit) => r = r0 ∧ True) (fun _ t => va_P G vwCl [(h_t, .inr (8, [.int t_genus, .int t_marks, .ref h_t_powers, .int t_leaves, .int t_splits, .ref h_t_tree, .ref h_t_ahead, .ref h_t_behind, .ref h_t_before, .int t_done, .int t_undone, .ref h_t_rows, .ref h_t_met, .ref h_t_metSizes, .int t_metMany, .int t_treesSeen, .ref h_t_chosen, .ref h_t_tape, .int t_taped, .int t_place, .int t_isWrong, .int t_toldGenus, .int t_toldMarks, .ref h_t_toldPowers, .ref h_t_powerPlaces, .int t_isTree, .int t_toldLeaves, .int t_leavesPlace, .int t_toldSplits, .ref h_t_toldTree, .ref h_t_splitPlaces, .ref h_t_layers, .int t_isWhy, .ref h_t_paper, .int t_papered, .ref h_t_held, .ref h_t_numbers, .ref h_t_sizes, .ref h_t_heldLeaves, .ref h_t_items, .ref h_t_kept, .int t_isKept])), (h_t_held, .inl (cI, 6, .inl a_t_held)), (h_t_sizes, .inl (cI, 6, .inl a_t_sizes)), (h_t_items, .inl (cI, 120, .inl a_t_items)), (h_t_tree, .inl (cI, 3, .inl a_t_tree))] t.heap) A) ([.ref h_t, .int p0] : List Value).toArray s 0 0 A) (F0 m 89 ls []) := by
    intro  H locs ls hP hD hS hl h
    unfold K_X9_judge_25_89 at h
    refine lv_bipush (v := (-2 : Int32)) hx hb dX9_judge_89 (by decide) ?_
    have h9 := Option.some.inj h
    have e9 : (-2 : Int32) = r0 := congrArg (fun z9 => z9) h9
    rw [← e9]
    exact k_iret hx hb hr hlocks hP hS rfl dX9_judge_91
  have hL25 : ∀ (n25 : Nat) (vL25_0 : Int32) (H : Heap) (locs : List Loc) (ls : Array Slot), va_P G vwCl [(h_t, .inr (8, [.int t_genus, .int t_marks, .ref h_t_powers, .int t_leaves, .int t_splits, .ref h_t_tree, .ref h_t_ahead, .ref h_t_behind, .ref h_t_before, .int t_done, .int t_undone, .ref h_t_rows, .ref h_t_met, .ref h_t_metSizes, .int t_metMany, .int t_treesSeen, .ref h_t_chosen, .ref h_t_tape, .int t_taped, .int t_place, .int t_isWrong, .int t_toldGenus, .int t_toldMarks, .ref h_t_toldPowers, .ref h_t_powerPlaces, .int t_isTree, .int t_toldLeaves, .int t_leavesPlace, .int t_toldSplits, .ref h_t_toldTree, .ref h_t_splitPlaces, .ref h_t_layers, .int t_isWhy, .ref h_t_paper, .int t_papered, .ref h_t_held, .ref h_t_numbers, .ref h_t_sizes, .ref h_t_heldLeaves, .ref h_t_items, .ref h_t_kept, .int t_isKept])), (h_t_held, .inl (cI, 6, .inl a_t_held)), (h_t_sizes, .inl (cI, 6, .inl a_t_sizes)), (h_t_items, .inl (cI, 120, .inl a_t_items)), (h_t_tree, .inl (cI, 3, .inl a_t_tree))] H → va_D A [(h_t, .inr (8, [.int t_genus, .int t_marks, .ref h_t_powers, .int t_leaves, .int t_splits, .ref h_t_tree, .ref h_t_ahead, .ref h_t_behind, .ref h_t_before, .int t_done, .int t_undone, .ref h_t_rows, .ref h_t_met, .ref h_t_metSizes, .int t_metMany, .int t_treesSeen, .ref h_t_chosen, .ref h_t_tape, .int t_taped, .int t_place, .int t_isWrong, .int t_toldGenus, .int t_toldMarks, .ref h_t_toldPowers, .ref h_t_powerPlaces, .int t_isTree, .int t_toldLeaves, .int t_leavesPlace, .int t_toldSplits, .ref h_t_toldTree, .ref h_t_splitPlaces, .ref h_t_layers, .int t_isWhy, .ref h_t_paper, .int t_papered, .ref h_t_held, .ref h_t_numbers, .ref h_t_sizes, .ref h_t_heldLeaves, .ref h_t_items, .ref h_t_kept, .int t_isKept])), (h_t_held, .inl (cI, 6, .inl a_t_held)), (h_t_sizes, .inl (cI, 6, .inl a_t_sizes)), (h_t_items, .inl (cI, 120, .inl a_t_items)), (h_t_tree, .inl (cI, 3, .inl a_t_tree))] → va_S A s.heap H locs → lv_has ls 3 [(0, .ref h_t), (1, .int p0), (2, .int vL25_0)] → wq1 (B_X9_judge_25 t_splits a_t_sizes a_t_items a_t_tree p0 K_X9_judge_25_89) n25 vL25_0 = some r0 → W p l e (headSpec wsX9_judge ({ frames := 2, cells := 0, slots := 0, locals := 45 })).room s m ([.ref h_t, .int p0] : List Value).toArray below meth c H locs 0 0 (MQ below (va_Qi (fun r (_ : Unit) => r = r0 ∧ True) (fun _ t => va_P G vwCl [(h_t, .inr (8, [.int t_genus, .int t_marks, .ref h_t_powers, .int t_leaves, .int t_splits, .ref h_t_tree, .ref h_t_ahead, .ref h_t_behind, .ref h_t_before, .int t_done, .int t_undone, .ref h_t_rows, .ref h_t_met, .ref h_t_metSizes, .int t_metMany, .int t_treesSeen, .ref h_t_chosen, .ref h_t_tape, .int t_taped, .int t_place, .int t_isWrong, .int t_toldGenus, .int t_toldMarks, .ref h_t_toldPowers, .ref h_t_powerPlaces, .int t_isTree, .int t_toldLeaves, .int t_leavesPlace, .int t_toldSplits, .ref h_t_toldTree, .ref h_t_splitPlaces, .ref h_t_layers, .int t_isWhy, .ref h_t_paper, .int t_papered, .ref h_t_held, .ref h_t_numbers, .ref h_t_sizes, .ref h_t_heldLeaves, .ref h_t_items, .ref h_t_kept, .int t_isKept])), (h_t_held, .inl (cI, 6, .inl a_t_held)), (h_t_sizes, .inl (cI, 6, .inl a_t_sizes)), (h_t_items, .inl (cI, 120, .inl a_t_items)), (h_t_tree, .inl (cI, 3, .inl a_t_tree))] t.heap) A) ([.ref h_t, .int p0] : List Value).toArray s 0 0 A) (F0 m 25 ls []) := by
    intro n25
    induction n25 with
    | zero => intro vL25_0 H locs ls hP hD hS hl h; exact wq1_0 h
    | succ n25 ih25 =>
      intro vL25_0 H locs ls hP hD hS hl h
      have h := wq1_s h
      unfold B_X9_judge_25 at h
      refine lv_iload_n hx hb dX9_judge_25 rfl (lv_at hl 2 rfl) ?_
      refine lv_aload_n hx hb dX9_judge_26 rfl (lv_at hl 0 rfl) ?_
      refine va_get (D := G) (ci := 8) (v := .ref h_t_sizes) (C := RX9) (T := TX9) (N := 42) hx hb hts hinX9 hown hK hP 0 rfl rfl 37 (by decide) (hta _ mw_628) (fun _ h9 => h9) rfl dX9_judge_27 ?_
      refine lv_iload_n hx hb dX9_judge_30 rfl (lv_at hl 1 rfl) ?_
      obtain ⟨hn5, h⟩ := ck_e h
      refine va_iald hx hb hK hP 2 0 rfl rfl hn5 dX9_judge_31 ?_
      have hJ_X9_judge_43 : ∀ (H : Heap) (locs : List Loc) (ls : Array Slot), va_P G vwCl [(h_t, .inr (8, [.int t_genus, .int t_marks, .ref h_t_powers, .int t_leaves, .int t_splits, .ref h_t_tree, .ref h_t_ahead, .ref h_t_behind, .ref h_t_before, .int t_done, .int t_undone, .ref h_t_rows, .ref h_t_met, .ref h_t_metSizes, .int t_metMany, .int t_treesSeen, .ref h_t_chosen, .ref h_t_tape, .int t_taped, .int t_place, .int t_isWrong, .int t_toldGenus, .int t_toldMarks, .ref h_t_toldPowers, .ref h_t_powerPlaces, .int t_isTree, .int t_toldLeaves, .int t_leavesPlace, .int t_toldSplits, .ref h_t_toldTree, .ref h_t_splitPlaces, .ref h_t_layers, .int t_isWhy, .ref h_t_paper, .int t_papered, .ref h_t_held, .ref h_t_numbers, .ref h_t_sizes, .ref h_t_heldLeaves, .ref h_t_items, .ref h_t_kept, .int t_isKept])), (h_t_held, .inl (cI, 6, .inl a_t_held)), (h_t_sizes, .inl (cI, 6, .inl a_t_sizes)), (h_t_items, .inl (cI, 120, .inl a_t_items)), (h_t_tree, .inl (cI, 3, .inl a_t_tree))] H → va_D A [(h_t, .inr (8, [.int t_genus, .int t_marks, .ref h_t_powers, .int t_leaves, .int t_splits, .ref h_t_tree, .ref h_t_ahead, .ref h_t_behind, .ref h_t_before, .int t_done, .int t_undone, .ref h_t_rows, .ref h_t_met, .ref h_t_metSizes, .int t_metMany, .int t_treesSeen, .ref h_t_chosen, .ref h_t_tape, .int t_taped, .int t_place, .int t_isWrong, .int t_toldGenus, .int t_toldMarks, .ref h_t_toldPowers, .ref h_t_powerPlaces, .int t_isTree, .int t_toldLeaves, .int t_leavesPlace, .int t_toldSplits, .ref h_t_toldTree, .ref h_t_splitPlaces, .ref h_t_layers, .int t_isWhy, .ref h_t_paper, .int t_papered, .ref h_t_held, .ref h_t_numbers, .ref h_t_sizes, .ref h_t_heldLeaves, .ref h_t_items, .ref h_t_kept, .int t_isKept])), (h_t_held, .inl (cI, 6, .inl a_t_held)), (h_t_sizes, .inl (cI, 6, .inl a_t_sizes)), (h_t_items, .inl (cI, 120, .inl a_t_items)), (h_t_tree, .inl (cI, 3, .inl a_t_tree))] → va_S A s.heap H locs → lv_has ls 3 [(0, .ref h_t), (1, .int p0), (2, .int vL25_0)] → J_X9_judge_43 t_splits a_t_sizes a_t_items a_t_tree p0 vL25_0 (wq1 (B_X9_judge_25 t_splits a_t_sizes a_t_items a_t_tree p0 K_X9_judge_25_89) n25) = some r0 → W p l e (headSpec wsX9_judge ({ frames := 2, cells := 0, slots := 0, locals := 45 })).room s m ([.ref h_t, .int p0] : List Value).toArray below meth c H locs 0 0 (MQ below (va_Qi (fun r (_ : Unit) => r = r0 ∧ True) (fun _ t => va_P G vwCl [(h_t, .inr (8, [.int t_genus, .int t_marks, .ref h_t_powers, .int t_leaves, .int t_splits, .ref h_t_tree, .ref h_t_ahead, .ref h_t_behind, .ref h_t_before, .int t_done, .int t_undone, .ref h_t_rows, .ref h_t_met, .ref h_t_metSizes, .int t_metMany, .int t_treesSeen, .ref h_t_chosen, .ref h_t_tape, .int t_taped, .int t_place, .int t_isWrong, .int t_toldGenus, .int t_toldMarks, .ref h_t_toldPowers, .ref h_t_powerPlaces, .int t_isTree, .int t_toldLeaves, .int t_leavesPlace, .int t_toldSplits, .ref h_t_toldTree, .ref h_t_splitPlaces, .ref h_t_layers, .int t_isWhy, .ref h_t_paper, .int t_papered, .ref h_t_held, .ref h_t_numbers, .ref h_t_sizes, .ref h_t_heldLeaves, .ref h_t_items, .ref h_t_kept, .int t_isKept])), (h_t_held, .inl (cI, 6, .inl a_t_held)), (h_t_sizes, .inl (cI, 6, .inl a_t_sizes)), (h_t_items, .inl (cI, 120, .inl a_t_items)), (h_t_tree, .inl (cI, 3, .inl a_t_tree))] t.heap) A) ([.ref h_t, .int p0] : List Value).toArray s 0 0 A) (F0 m 43 ls []) := by
        intro  H locs ls hP hD hS hl h
        unfold J_X9_judge_43 at h
        refine lv_iload_n hx hb dX9_judge_43 rfl (lv_at hl 2 rfl) ?_
        refine lv_aload_n hx hb dX9_judge_44 rfl (lv_at hl 0 rfl) ?_
        refine va_get (D := G) (ci := 8) (v := .ref h_t_sizes) (C := RX9) (T := TX9) (N := 42) hx hb hts hinX9 hown hK hP 0 rfl rfl 37 (by decide) (hta _ mw_628) (fun _ h9 => h9) rfl dX9_judge_45 ?_
        refine lv_iload_n hx hb dX9_judge_48 rfl (lv_at hl 1 rfl) ?_
        obtain ⟨hn6, h⟩ := ck_e h
        refine va_iald hx hb hK hP 2 0 rfl rfl hn6 dX9_judge_49 ?_
        refine lv_icmp_ge (tgt := 81) hx hb dX9_judge_50 (by decide) (fun c7 => ?_) (fun c7 => ?_)
        · have h := it_p h c7
          refine lv_iload_n hx hb dX9_judge_81 rfl (lv_at hl 2 rfl) ?_
          have h9 := Option.some.inj h
          have e9 : vL25_0 = r0 := congrArg (fun z9 => z9) h9
          rw [← e9]
          exact k_iret hx hb hr hlocks hP hS rfl dX9_judge_82
        have h := it_n h c7
        refine lv_iload_n hx hb dX9_judge_53 rfl (lv_at hl 2 rfl) ?_
        refine lv_aload_n hx hb dX9_judge_54 rfl (lv_at hl 0 rfl) ?_
        refine va_get (D := G) (ci := 8) (v := .int t_splits) (C := RX9) (T := TX9) (N := 42) hx hb hts hinX9 hown hK hP 0 rfl rfl 4 (by decide) (hta _ mw_642) (fun _ h9 => h9) rfl dX9_judge_55 ?_
        refine lv_icmp_ge (tgt := 81) hx hb dX9_judge_58 (by decide) (fun c8 => ?_) (fun c8 => ?_)
        · have h := it_p h c8
          refine lv_iload_n hx hb dX9_judge_81 rfl (lv_at hl 2 rfl) ?_
          have h9 := Option.some.inj h
          have e9 : vL25_0 = r0 := congrArg (fun z9 => z9) h9
          rw [← e9]
          exact k_iret hx hb hr hlocks hP hS rfl dX9_judge_82
        have h := it_n h c8
        refine lv_aload_n hx hb dX9_judge_61 rfl (lv_at hl 0 rfl) ?_
        refine va_get (D := G) (ci := 8) (v := .ref h_t_items) (C := RX9) (T := TX9) (N := 42) hx hb hts hinX9 hown hK hP 0 rfl rfl 39 (by decide) (hta _ mw_630) (fun _ h9 => h9) rfl dX9_judge_62 ?_
        refine lv_bipush (v := (20 : Int32)) hx hb dX9_judge_65 (by decide) ?_
        refine lv_iload_n hx hb dX9_judge_67 rfl (lv_at hl 1 rfl) ?_
        refine lv_imul hx hb dX9_judge_68 ?_
        refine lv_iload_n hx hb dX9_judge_69 rfl (lv_at hl 2 rfl) ?_
        refine lv_iadd hx hb dX9_judge_70 ?_
        obtain ⟨hn9, h⟩ := ck_e h
        refine va_iald hx hb hK hP 3 0 rfl rfl hn9 dX9_judge_71 ?_
        refine lv_aload_n hx hb dX9_judge_72 rfl (lv_at hl 0 rfl) ?_
        refine va_get (D := G) (ci := 8) (v := .ref h_t_tree) (C := RX9) (T := TX9) (N := 42) hx hb hts hinX9 hown hK hP 0 rfl rfl 5 (by decide) (hta _ mw_610) (fun _ h9 => h9) rfl dX9_judge_73 ?_
        refine lv_iload_n hx hb dX9_judge_76 rfl (lv_at hl 2 rfl) ?_
        obtain ⟨hn10, h⟩ := ck_e h
        refine va_iald hx hb hK hP 4 0 rfl rfl hn10 dX9_judge_77 ?_
        refine lv_icmp_eq (tgt := 83) hx hb dX9_judge_78 (by decide) (fun c11 => ?_) (fun c11 => ?_)
        · have h := it_p h c11
          refine lv_iinc (v := (vL25_0 + (1 : Int32))) (lv' := [(2, .int (vL25_0 + (1 : Int32))), (0, .ref h_t), (1, .int p0)]) hx hb dX9_judge_83 hl (k := 2) rfl (by first | rfl | decide) (by decide) rfl (fun ls hl => ?_)
          refine lv_goto (tgt := 25) hx hb dX9_judge_86 (by decide) ?_
          exact ih25 (vL25_0 + (1 : Int32)) _ _ _ hP hD hS (lv_sub hl [1, 2, 0] rfl) h
        have h := it_n h c11
        refine lv_iload_n hx hb dX9_judge_81 rfl (lv_at hl 2 rfl) ?_
        have h9 := Option.some.inj h
        have e9 : vL25_0 = r0 := congrArg (fun z9 => z9) h9
        rw [← e9]
        exact k_iret hx hb hr hlocks hP hS rfl dX9_judge_82
      refine lv_icmp_lt (tgt := 43) hx hb dX9_judge_32 (by decide) (fun c12 => ?_) (fun c12 => ?_)
      · have h := it_p h c12
        exact hJ_X9_judge_43  _ _ _ hP hD hS (lv_sub hl [0, 1, 2] rfl) h
      have h := it_n h c12
      refine lv_iload_n hx hb dX9_judge_35 rfl (lv_at hl 2 rfl) ?_
      refine lv_aload_n hx hb dX9_judge_36 rfl (lv_at hl 0 rfl) ?_
      refine va_get (D := G) (ci := 8) (v := .int t_splits) (C := RX9) (T := TX9) (N := 42) hx hb hts hinX9 hown hK hP 0 rfl rfl 4 (by decide) (hta _ mw_642) (fun _ h9 => h9) rfl dX9_judge_37 ?_
      refine lv_icmp_ge (tgt := 89) hx hb dX9_judge_40 (by decide) (fun c13 => ?_) (fun c13 => ?_)
      · have h := it_p h c13
        exact hK_X9_judge_25_89  _ _ _ hP hD hS (lv_sub hl [] rfl) h
      have h := it_n h c13
      exact hJ_X9_judge_43  _ _ _ hP hD hS (lv_sub hl [0, 1, 2] rfl) h
  exact hL25 FU (0 : Int32) _ _ _ hP hD hS (lv_sub hl [1, 2, 0] rfl) h
